/-! ===== the tape cut into tokens, in the abstract ===== -/
def tk_let (x : Nat) : Bool := decide ((97 ≤ x ∧ x ≤ 122) ∨ (65 ≤ x ∧ x ≤ 90))
def tk_dig (x : Nat) : Bool := decide (48 ≤ x ∧ x ≤ 57)
def tk_sp (x : Nat) : Bool := decide (x = 32 ∨ x = 10)
def tk_go (P : Nat → Bool) (b : Nat → Nat) : Nat → Nat → Nat
  | 0, x => x
  | f + 1, x => if P (b x) = true then tk_go P b f (x + 1) else x
/-- how far those of a kind stand from x on -/
def tk_run (P : Nat → Bool) (b : Nat → Nat) (n x : Nat) : Nat := tk_go P b (n - x) x
section TK
variable {P : Nat → Bool} {b : Nat → Nat} {n : Nat}
theorem tk_run_s {x : Nat} (h : x < n) (hp : P (b x) = true) : tk_run P b n x = tk_run P b n (x + 1) := by
  unfold tk_run
  rw [show n - x = (n - (x + 1)) + 1 by omega]
  exact if_pos hp
theorem tk_run_0 {x : Nat} (h : n ≤ x) : tk_run P b n x = x := by
  unfold tk_run
  rw [show n - x = 0 by omega]
  rfl
theorem tk_run_f {x : Nat} (hp : P (b x) = false) : tk_run P b n x = x := by
  unfold tk_run
  cases n - x with
  | zero => rfl
  | succ f => exact if_neg (by rw [hp]; decide)
theorem tk_go_le : ∀ f x, x ≤ tk_go P b f x ∧ tk_go P b f x ≤ x + f := by
  intro f
  induction f with
  | zero => intro x; exact ⟨Nat.le_refl _, Nat.le_refl _⟩
  | succ f ih =>
    intro x
    unfold tk_go
    split
    · have := ih (x + 1)
      omega
    · omega
theorem tk_run_le {x : Nat} (h : x ≤ n) : x ≤ tk_run P b n x ∧ tk_run P b n x ≤ n := by
  have := tk_go_le (P := P) (b := b) (n - x) x
  unfold tk_run
  omega
theorem tk_go_all : ∀ f x y, x ≤ y → y < tk_go P b f x → P (b y) = true := by
  intro f
  induction f with
  | zero => intro x y h1 h2; exact absurd h2 (Nat.not_lt.mpr h1)
  | succ f ih =>
    intro x y h1 h2
    unfold tk_go at h2
    by_cases hp : P (b x) = true
    · rw [if_pos hp] at h2
      by_cases e : x = y
      · rw [← e]
        exact hp
      · exact ih (x + 1) y (by omega) h2
    · rw [if_neg hp] at h2
      omega
theorem tk_run_all {x y : Nat} (h : x ≤ y) (h2 : y < tk_run P b n x) : P (b y) = true := tk_go_all _ x y h h2
/-- a word as one number -/
def tk_K (b : Nat → Nat) (x : Nat) : Nat → Nat
  | 0 => 0
  | l + 1 => tk_K b x l * 256 + b (x + l)
theorem tk_K_inj {b b' : Nat → Nat} {x x' : Nat} : ∀ l l', (∀ j, j < l → 1 ≤ b (x + j) ∧ b (x + j) < 256) → (∀ j, j < l' → 1 ≤ b' (x' + j) ∧ b' (x' + j) < 256) → tk_K b x l = tk_K b' x' l' → l = l' ∧ ∀ j, j < l → b (x + j) = b' (x' + j) := by
  intro l
  induction l with
  | zero =>
    intro l' h1 h2 h
    cases l' with
    | zero => exact ⟨rfl, fun j hj => absurd hj (Nat.not_lt_zero j)⟩
    | succ l' =>
      have := (h2 l' (by omega)).1
      unfold tk_K at h
      omega
  | succ l ih =>
    intro l' h1 h2 h
    have k1 := h1 l (by omega)
    cases l' with
    | zero =>
      unfold tk_K at h
      omega
    | succ l' =>
      have k2 := h2 l' (by omega)
      have h : tk_K b x l * 256 + b (x + l) = tk_K b' x' l' * 256 + b' (x' + l') := h
      obtain ⟨e, e2⟩ := ih l' (fun j hj => h1 j (by omega)) (fun j hj => h2 j (by omega)) (by omega)
      subst e
      refine ⟨rfl, fun j hj => ?_⟩
      by_cases ej : j = l
      · rw [ej]
        omega
      · exact e2 j (by omega)
theorem tk_K_eq {b b' : Nat → Nat} {x x' : Nat} : ∀ l, (∀ j, j < l → b (x + j) = b' (x' + j)) → tk_K b x l = tk_K b' x' l := by
  intro l
  induction l with
  | zero => intro _; rfl
  | succ l ih =>
    intro h
    unfold tk_K
    rw [h l (by omega), ih (fun j hj => h j (by omega))]
end TK
/-! the words of the language -/
def tk_wb (j : Nat) : Nat := ((go_by 0).getD j 0).toNatClampNeg
def tk_ws (w : Nat) : Nat := ([0, 6, 13, 20, 25, 32, 37, 41, 46, 52, 57, 62, 67, 73, 78, 82, 89, 94, 98, 104, 107, 110, 113, 116, 121, 126, 130, 133, 137, 141, 147, 151] : List Nat).getD w 0
theorem tw_1 : ∀ w, w < 31 → tk_ws w + 1 < tk_ws (w + 1) ∧ tk_ws (w + 1) ≤ 151 ∧ (go_by 0).getD (tk_ws (w + 1) - 1) 0 = 32 := by decide +kernel
theorem tw_2 : ∀ j, j < 151 → (go_by 0).getD j 0 = nI (tk_wb j) ∧ tk_wb j < 256 ∧ 1 ≤ tk_wb j := by decide +kernel
theorem tw_3 : ∀ w, w < 31 → ∀ j, j < 151 → tk_ws w ≤ j → j + 1 < tk_ws (w + 1) → (go_by 0).getD j 0 ≠ 32 := by decide +kernel
theorem tw_4 : tk_ws 0 = 0 ∧ tk_ws 31 = 151 := by decide
/-- the number of a word of the language -/
def tk_wk (w : Nat) : Nat := tk_K tk_wb (tk_ws w) (tk_ws (w + 1) - 1 - tk_ws w)
theorem tw_5 : ∀ w, w < 31 → ∀ w', w' < 31 → tk_wk w = tk_wk w' → w = w' := by decide +kernel
def tk_fw (K : Nat) : Nat → Nat
  | 0 => 31
  | m + 1 => if tk_wk m = K then m else tk_fw K m
def tk_word (K : Nat) : Nat := tk_fw K 31
theorem tk_fw_1 (K : Nat) : ∀ m, m ≤ 31 → (tk_fw K m < m ∧ tk_wk (tk_fw K m) = K) ∨ (tk_fw K m = 31 ∧ ∀ w, w < m → tk_wk w ≠ K) := by
  intro m
  induction m with
  | zero => intro _; exact Or.inr ⟨rfl, fun w hw => absurd hw (Nat.not_lt_zero w)⟩
  | succ m ih =>
    intro hm
    unfold tk_fw
    by_cases h : tk_wk m = K
    · rw [if_pos h]
      exact Or.inl ⟨by omega, h⟩
    · rw [if_neg h]
      rcases ih (by omega) with ⟨k1, k2⟩ | ⟨k1, k2⟩
      · exact Or.inl ⟨by omega, k2⟩
      · refine Or.inr ⟨k1, fun w hw => ?_⟩
        by_cases e : w = m
        · rw [e]
          exact h
        · exact k2 w (by omega)
theorem tk_word_iff {K w : Nat} (hw : w < 31) : tk_word K = w ↔ tk_wk w = K := by
  unfold tk_word
  rcases tk_fw_1 K 31 (by omega) with ⟨k1, k2⟩ | ⟨k1, k2⟩
  · constructor
    · intro h
      rw [← h]
      exact k2
    · intro h
      exact tw_5 _ k1 w hw (k2.trans h.symm)
  · constructor
    · intro h
      omega
    · intro h
      exact absurd h (k2 w hw)
theorem tk_word_31 {K : Nat} (h : ∀ w, w < 31 → tk_wk w ≠ K) : tk_word K = 31 := by
  unfold tk_word
  rcases tk_fw_1 K 31 (by omega) with ⟨k1, k2⟩ | ⟨k1, k2⟩
  · exact absurd k2 (h _ k1)
  · exact k1
theorem tk_word_le (K : Nat) : tk_word K ≤ 31 := by
  unfold tk_word
  rcases tk_fw_1 K 31 (by omega) with ⟨k1, k2⟩ | ⟨k1, k2⟩ <;> omega
/-! the class finds it -/
theorem q_spells {μ : PM} {b : Nat → Nat} {x l w : Nat} (hb : ∀ k, k < 300 → μ.1 371 k = nI (b k) ∧ b k < 256) (hx : x + l ≤ 300) (hw : w < 31) (hl : tk_ws w + l + 1 = tk_ws (w + 1)) :
    ∃ r, fX6_spells μ (nI (tk_ws w)) (nI (tk_ws w + l)) (nI x) = some r ∧ ((r = 1 ∧ ∀ j, j < l → b (x + j) = tk_wb (tk_ws w + j)) ∨ (r = 0 ∧ ¬ ∀ j, j < l → b (x + j) = tk_wb (tk_ws w + j))) := by
  have t1 := (tw_1 w hw).2.1
  obtain ⟨r, l1, l2⟩ := lp_inv (f := fun s : Int32 => lbX6_spells_3 μ (nI (tk_ws w)) (nI (tk_ws w + l)) (nI x) s)
    (fun s => ∃ i, i ≤ l ∧ s = nI (tk_ws w + i) ∧ ∀ j, j < i → b (x + j) = tk_wb (tk_ws w + j)) (fun s => 152 - s.toNatClampNeg)
    (fun r => (r = 1 ∧ ∀ j, j < l → b (x + j) = tk_wb (tk_ws w + j)) ∨ (r = 0 ∧ ¬ ∀ j, j < l → b (x + j) = tk_wb (tk_ws w + j)))
    (fun s hI => by
      obtain ⟨i, i1, rfl, i3⟩ := hI
      have hle : nI (tk_ws w + l) ≤ nI (tk_ws w + i) ↔ tk_ws w + l ≤ tk_ws w + i := le_n (by omega) (by omega)
      unfold lbX6_spells_3
      by_cases h : l ≤ i
      · right
        rw [if_pos (hle.mpr (by omega))]
        exact ⟨1, rfl, Or.inl ⟨rfl, fun j hj => i3 j (by omega)⟩⟩
      have e1 : nI x + nI (tk_ws w + i) - nI (tk_ws w) = nI (x + i) := by
        rw [nI_add, nI_subI (by omega)]
        congr 1
        omega
      obtain ⟨g1, g2, g3⟩ := tw_2 (tk_ws w + i) (by omega)
      obtain ⟨g4, g5⟩ := hb (x + i) (by omega)
      have hq : nI (tk_wb (tk_ws w + i)) = nI (b (x + i)) ↔ tk_wb (tk_ws w + i) = b (x + i) := nI_eq (by omega) (by omega)
      rw [if_neg (fun q => h (by have := hle.mp q; omega))]
      simp only [go_let]
      rw [e1, if_neg (nI_pos (show x + i < 2147483648 by omega)), if_neg (show ¬ (300 : Int32) ≤ nI (x + i) by rw [l_le (n := 300) (by omega) (by omega)]; omega), chk_n (show tk_ws w + i < 151 by omega) (by omega), chk_n (show x + i < 300 by omega) (by omega), cl_n (show tk_ws w + i < 2147483648 by omega), cl_n (show x + i < 2147483648 by omega), g1, g4, add_l 1]
      by_cases e : tk_wb (tk_ws w + i) = b (x + i)
      · left
        rw [if_pos (hq.mpr e)]
        refine ⟨_, rfl, ⟨i + 1, by omega, rfl, fun j hj => ?_⟩, by rw [cl_n (show tk_ws w + i + 1 < 2147483648 by omega)]; omega⟩
        by_cases ej : j = i
        · rw [ej]
          exact e.symm
        · exact i3 j (by omega)
      · right
        rw [if_neg (fun q => e (hq.mp q))]
        exact ⟨0, rfl, Or.inr ⟨rfl, fun q => e (q i (by omega)).symm⟩⟩)
    go_fuel (nI (tk_ws w)) ⟨0, by omega, rfl, fun j hj => absurd hj (Nat.not_lt_zero j)⟩ (by unfold go_fuel; omega)
  unfold fX6_spells
  rw [l1]
  exact ⟨r, rfl, l2⟩
theorem q_findWord {μ : PM} {b : Nat → Nat} {x l : Nat} (hb : ∀ k, k < 300 → μ.1 371 k = nI (b k) ∧ b k < 256) (hx : x + l ≤ 300) (h1 : ∀ j, j < l → 1 ≤ b (x + j)) : fX6_findWord μ (nI x) (nI (x + l)) = some (nI (tk_word (tk_K b x l))) := by
  have hbb : ∀ j, j < l → 1 ≤ b (x + j) ∧ b (x + j) < 256 := fun j hj => ⟨h1 j hj, (hb (x + j) (by omega)).2⟩
  have hww : ∀ w, w < 31 → ∀ j, j < tk_ws (w + 1) - 1 - tk_ws w → 1 ≤ tk_wb (tk_ws w + j) ∧ tk_wb (tk_ws w + j) < 256 := fun w hw j hj => by
    have t1 := tw_1 w hw
    have := tw_2 (tk_ws w + j) (by omega)
    exact ⟨this.2.2, this.2.1⟩
  obtain ⟨r, l1, l2⟩ := lp_inv (f := fun s : Int32 × Int32 × Int32 => lbX6_findWord_8 μ (nI x) (nI (x + l)) s.1 s.2.1 s.2.2)
    (fun s => ∃ w j, w ≤ 31 ∧ s.1 = nI w ∧ s.2.1 = nI (tk_ws w) ∧ s.2.2 = nI j ∧ tk_ws w ≤ j ∧ (w < 31 → j < tk_ws (w + 1)) ∧ (w = 31 → j = 151) ∧ ∀ w', w' < w → tk_wk w' ≠ tk_K b x l) (fun s => 152 - s.2.2.toNatClampNeg)
    (fun r => r = nI (tk_word (tk_K b x l)))
    (fun s hI => by
      obtain ⟨s1, s2, s3⟩ := s
      obtain ⟨w, j, w1, e1, e2, e3, j1, j2, j3, hN⟩ := hI
      have e1 : s1 = nI w := e1
      have e2 : s2 = nI (tk_ws w) := e2
      have e3 : s3 = nI j := e3
      subst e1 e2 e3
      dsimp only
      unfold lbX6_findWord_8 jjX6_findWord_55_8
      by_cases h31 : w = 31
      · right
        have := j3 h31
        subst this
        rw [if_pos (by decide)]
        refine ⟨31, rfl, ?_⟩
        rw [tk_word_31 (fun w' hw' => hN w' (by omega))]
        rfl
      have hw : w < 31 := by omega
      have t1 := tw_1 w hw
      have j2 := j2 hw
      rw [if_neg (show ¬ (151 : Int32) ≤ nI j by rw [l_le (n := 151) (by omega) (by omega)]; omega), chk_n (show j < 151 by omega) (by omega), cl_n (show j < 2147483648 by omega), add_l 1, add_l 1]
      by_cases hj : j + 1 < tk_ws (w + 1)
      · left
        rw [if_neg (tw_3 w hw j (by omega) j1 hj)]
        refine ⟨_, rfl, ⟨w, j + 1, w1, rfl, rfl, rfl, by omega, fun _ => hj, fun q => absurd q h31, hN⟩, by dsimp only; rw [cl_n (show j + 1 < 2147483648 by omega)]; omega⟩
      have ej : j = tk_ws (w + 1) - 1 := by omega
      have fin : tk_wk w ≠ tk_K b x l → ∃ s' : Int32 × Int32 × Int32, (some (.inl (nI (w + 1), nI (j + 1), nI (j + 1))) : Option ((Int32 × Int32 × Int32) ⊕ Int32)) = some (.inl s') ∧ (∃ w j, w ≤ 31 ∧ s'.1 = nI w ∧ s'.2.1 = nI (tk_ws w) ∧ s'.2.2 = nI j ∧ tk_ws w ≤ j ∧ (w < 31 → j < tk_ws (w + 1)) ∧ (w = 31 → j = 151) ∧ ∀ w', w' < w → tk_wk w' ≠ tk_K b x l) ∧ 152 - s'.2.2.toNatClampNeg < 152 - j := by
        intro hne
        have ews : j + 1 = tk_ws (w + 1) := by omega
        refine ⟨_, rfl, ⟨w + 1, j + 1, by omega, rfl, by rw [ews], rfl, by omega, fun q => ?_, fun q => ?_, fun w' hw' => ?_⟩, by dsimp only; rw [cl_n (show j + 1 < 2147483648 by omega)]; omega⟩
        · have := tw_1 (w + 1) q
          omega
        · have e31 : w + 1 = 31 := q
          rw [ews, e31]
          exact tw_4.2
        · by_cases e : w' = w
          · rw [e]
            exact hne
          · exact hN w' (by omega)
      rw [if_pos (by rw [ej]; exact t1.2.2), nI_subI j1, nI_subI (show x ≤ x + l by omega), show x + l - x = l by omega]
      have hq : nI (j - tk_ws w) = nI l ↔ j - tk_ws w = l := nI_eq (by omega) (by omega)
      by_cases hl : j - tk_ws w = l
      · rw [if_pos (hq.mpr hl)]
        obtain ⟨r, r1, r2⟩ := q_spells (l := l) hb hx hw (by omega)
        rw [show nI j = nI (tk_ws w + l) by congr 1; omega, r1, Option.bind_some]
        have el : tk_ws (w + 1) - 1 - tk_ws w = l := by omega
        rcases r2 with ⟨rfl, r2⟩ | ⟨rfl, r2⟩
        · right
          rw [if_neg (by decide)]
          refine ⟨_, rfl, ?_⟩
          have : tk_wk w = tk_K b x l := by
            unfold tk_wk
            rw [el]
            exact tk_K_eq l (fun i hi => (r2 i hi).symm)
          rw [(tk_word_iff hw).mpr this]
        · left
          rw [if_pos rfl]
          exact fin (fun q => r2 (by
            unfold tk_wk at q
            have := tk_K_inj _ _ (hww w hw) hbb q
            intro i hi
            exact ((this.2 i (by omega))).symm))
      · left
        rw [if_neg (fun q => hl (hq.mp q))]
        exact fin (fun q => by
          unfold tk_wk at q
          have := (tk_K_inj _ _ (hww w hw) hbb q).1
          omega))
    go_fuel (0, 0, 0) ⟨0, 0, by omega, rfl, rfl, rfl, by rw [tw_4.1]; omega, fun _ => by have := tw_1 0 (by omega); omega, fun q => absurd q (by omega), fun w' hw' => absurd hw' (Nat.not_lt_zero w')⟩ (by unfold go_fuel; dsimp only; omega)
  unfold fX6_findWord
  rw [l1, l2]
  rfl
