/-! ===== the most pairs of a set of HALVES ===== -/
def rm (s i : Nat) : Nat := s &&& (2 ^ i ^^^ 4294967295)
theorem rm_bit (s i : Nat) {j : Nat} (hj : j < 32) : (rm s i).testBit j = (s.testBit j && !decide (j = i)) := by
  unfold rm
  rw [Nat.testBit_and, Nat.testBit_xor, Nat.testBit_two_pow, show (4294967295 : Nat) = 2 ^ 32 - 1 from rfl, Nat.testBit_two_pow_sub_one, decide_eq_true hj]
  congr 1
  by_cases h : j = i
  · subst h; simp
  · have : ¬ i = j := fun q => h q.symm
    simp [h, this]
theorem rm_le (s i : Nat) : rm s i ≤ s := Nat.and_le_left
theorem rm_comm (s i j : Nat) : rm (rm s i) j = rm (rm s j) i := by
  unfold rm
  rw [Nat.and_assoc, Nat.and_assoc, Nat.and_comm (2 ^ i ^^^ 4294967295)]
theorem rm_lt {s i : Nat} (hi : i < 32) (h : s.testBit i = true) : rm s i < s := by
  have h1 := rm_le s i
  have h2 : rm s i ≠ s := fun q => by
    have := rm_bit s i hi
    rw [q, h] at this
    simp at this
  omega
theorem nI_rm {s i : Nat} (hi : i < 31) : nI s &&& ((1 : Int32) <<< (nI i &&& 31) ^^^ (-1)) = nI (rm s i) := nb_not hi
def pc8 (s : Nat) : Nat := ct_in (fun j => s.testBit j) 8
theorem pc8_le (s : Nat) : pc8 s ≤ 8 := ct_in_le _ 8
theorem pc8_rm {s i : Nat} (hi : i < 8) (h : s.testBit i = true) : pc8 s = pc8 (rm s i) + 1 := by
  have e : pc8 s = ct_in (fun y => (rm s i).testBit y || decide (y = i)) 8 := ct_in_eq (fun j hj => by
    rw [rm_bit s i (by omega)]
    by_cases q : j = i
    · subst q; rw [h]; simp
    · simp [q])
  rw [e]
  exact ct_in_up (by rw [rm_bit s i (by omega)]; simp) 8 hi
def vp (a : Nat → Int32) (N s i k : Nat) : Prop := i ≠ k ∧ s.testBit i = true ∧ s.testBit k = true ∧ jn a N i k ≠ none
def tb (μ : PM) (s : Nat) : Nat := (μ.1 413 s).toNatClampNeg
/-- a row of the table is right, by those below it -/
def tbR (a : Nat → Int32) (N H : Nat) (t : Nat → Nat) (s : Nat) : Prop := (∀ i k, i < H → k < H → vp a N s i k → t (rm (rm s i) k) + 1 ≤ t s) ∧ (t s = 0 ∨ ∃ i k, i < H ∧ k < H ∧ vp a N s i k ∧ t s = t (rm (rm s i) k) + 1) ∧ 2 * t s ≤ pc8 s
def MXI (a : Nat → Int32) (N H : Nat) (t : Nat → Nat) (s i k v : Nat) : Prop := (∀ i' k', i' < H → k' < H → (i' < i ∨ (i' = i ∧ k' < k)) → vp a N s i' k' → t (rm (rm s i') k') + 1 ≤ v) ∧ (v = 0 ∨ ∃ i' k', i' < H ∧ k' < H ∧ vp a N s i' k' ∧ v = t (rm (rm s i') k') + 1)
section LAY
variable {μm : PM} {N H : Nat}
theorem vp_lt {a : Nat → Int32} {s i k : Nat} (hi : i < 8) (hk : k < 8) (h : vp a N s i k) : rm (rm s i) k < s := Nat.lt_of_le_of_lt (rm_le _ _) (rm_lt (by omega) h.2.1)
theorem vp_pc {a : Nat → Int32} {s i k : Nat} (hi : i < 8) (hk : k < 8) (h : vp a N s i k) : pc8 s = pc8 (rm (rm s i) k) + 2 := by
  have h1 := pc8_rm hi h.2.1
  have h2 : (rm s i).testBit k = true := by
    rw [rm_bit s i (by omega), h.2.2.1]
    have : ¬ k = i := fun q => h.1 q.symm
    simp [this]
  have h3 := pc8_rm hk h2
  omega
theorem q_lay33 (hO : OB (μm.1 402)) (eN : μm.1 402 0 = nI N) (hN : N ≤ 6) (hH : H ≤ 8) {s i : Nat} (hs : s < 256) (hi : i < H) {t : Nat → Nat} (ht : ∀ x, x < s → 2 * t x ≤ pc8 x) : ∀ r k μ v fuel, k + r = H → (∀ c, c ≠ 413 → μ.1 c = μm.1 c) → (∀ x, x < s → μ.1 413 x = nI (t x)) → μ.1 413 s = nI v → 2 * v ≤ pc8 s → MXI (μm.1 402) N H t s i k v → r < fuel →
    ∃ μ' v', lp (fun q : Int32 × PM => lbX12_layPairs_33 (nI H) (nI s) (nI i) q.1 q.2) fuel (nI k, μ) = some (.inl μ') ∧ (∀ c, c ≠ 413 → μ'.1 c = μm.1 c) ∧ (∀ x, x < s → μ'.1 413 x = nI (t x)) ∧ μ'.1 413 s = nI v' ∧ 2 * v' ≤ pc8 s ∧ MXI (μm.1 402) N H t s i H v' := by
  intro r
  induction r with
  | zero =>
    intro k μ v fuel hk h1 h2 h3 h4 h5 hf
    obtain ⟨f, rfl⟩ : ∃ f, fuel = f + 1 := ⟨fuel - 1, by omega⟩
    have e : k = H := by omega
    subst e
    refine ⟨μ, v, lp_e ?_, h1, h2, h3, h4, h5⟩
    show lbX12_layPairs_33 (nI k) (nI s) (nI i) (nI k) μ = _
    unfold lbX12_layPairs_33
    rw [if_pos (by rw [le_n (by omega) (by omega)]; omega)]
  | succ r ih =>
    intro k μ v fuel hk h1 h2 h3 h4 h5 hf
    obtain ⟨f, rfl⟩ : ∃ f, fuel = f + 1 := ⟨fuel - 1, by omega⟩
    have f402 := h1 402 (by omega)
    have hpc := pc8_le s
    have skip : ¬ vp (μm.1 402) N s i k → MXI (μm.1 402) N H t s i (k + 1) v := fun hn => ⟨fun i' k' hi' hk' hlt hv => by
      by_cases e : i' = i ∧ k' = k
      · rw [e.1, e.2] at hv; exact absurd hv hn
      · exact h5.1 i' k' hi' hk' (by omega) hv, h5.2⟩
    have body : lbX12_layPairs_33 (nI H) (nI s) (nI i) (nI k) μ = some (.inl (nI (k + 1), μ)) ∧ ¬ vp (μm.1 402) N s i k ∨ vp (μm.1 402) N s i k ∧ lbX12_layPairs_33 (nI H) (nI s) (nI i) (nI k) μ = some (.inl (nI (k + 1), pm_wi μ 413 s (nI (if t (rm (rm s i) k) + 1 ≤ v then v else t (rm (rm s i) k) + 1)))) := by
      unfold lbX12_layPairs_33 jjX12_layPairs_126_33
      simp only [go_let]
      rw [if_neg (by rw [le_n (by omega) (by omega)]; omega), add_l 1]
      have hik : nI i = nI k ↔ i = k := eq_n (by omega) (by omega)
      by_cases c1 : i = k
      · left
        rw [if_pos (hik.mpr c1)]
        exact ⟨rfl, fun q => q.1 c1⟩
      rw [if_neg (fun q => c1 (hik.mp q)), nb_has (by omega) (by omega), nb_has (by omega) (by omega), q_ite, q_ite]
      by_cases c2 : s.testBit i = true
      case neg =>
        left
        rw [if_neg c2]
        exact ⟨rfl, fun q => c2 q.2.1⟩
      rw [if_pos c2]
      by_cases c3 : s.testBit k = true
      case neg =>
        left
        rw [if_neg c3]
        exact ⟨rfl, fun q => c3 q.2.2.1⟩
      rw [if_pos c3, q_joinM (μm := μ) (by rw [f402]; exact hO) (by rw [f402]; exact eN) hN (show i < 8 by omega) (show k < 8 by omega), Option.bind_some, f402]
      cases hj : jn (μm.1 402) N i k with
      | none =>
        left
        rw [if_pos (show enc none = -1 from rfl)]
        exact ⟨rfl, fun q => q.2.2.2 hj⟩
      | some n =>
        right
        have hv : vp (μm.1 402) N s i k := ⟨c1, c2, c3, by rw [hj]; exact fun q => by cases q⟩
        have hlt := vp_lt (by omega) (by omega) hv
        have hn := jn_lt hj
        have htb := ht _ hlt
        have hp2 := pc8_le (rm (rm s i) k)
        refine ⟨hv, ?_⟩
        rw [if_neg (enc_n1 (by omega)), nI_rm (show i < 31 by omega), nI_rm (show k < 31 by omega), chk_n (show rm (rm s i) k < 256 by omega) (by omega), cl_n (show rm (rm s i) k < 2147483648 by omega), h2 _ hlt, l_add 1, chk_n hs (by omega), chk_n hs (by omega), chk_n hs (by omega), cl_n (show s < 2147483648 by omega), h3, Nat.add_comm 1]
        have hle : nI (t (rm (rm s i) k) + 1) ≤ nI v ↔ t (rm (rm s i) k) + 1 ≤ v := le_n (by omega) (by omega)
        by_cases c4 : t (rm (rm s i) k) + 1 ≤ v
        · rw [if_pos (hle.mpr c4), if_pos c4]
        · rw [if_neg (fun q => c4 (hle.mp q)), if_neg c4, chk_n hs (by omega)]
    rcases body with ⟨b1, b2⟩ | ⟨b1, b2⟩
    · rw [lp_l (s' := (nI (k + 1), μ)) b1]
      exact ih (k + 1) μ v f (by omega) h1 h2 h3 h4 (skip b2) (by omega)
    · have hlt := vp_lt (by omega) (by omega) b1
      have hpp := vp_pc (by omega) (by omega) b1
      have htb := ht _ hlt
      rw [lp_l (s' := (nI (k + 1), pm_wi μ 413 s (nI (if t (rm (rm s i) k) + 1 ≤ v then v else t (rm (rm s i) k) + 1)))) b2]
      refine ih (k + 1) _ _ f (by omega) (fun c hc => by rw [wi_c hc]; exact h1 c hc) (fun x hx => by rw [wi_i (by omega)]; exact h2 x hx) wi_e (by split <;> omega) ⟨fun i' k' hi' hk' hlt' hv => ?_, ?_⟩ (by omega)
      · by_cases e : i' = i ∧ k' = k
        · rw [e.1, e.2]
          split <;> omega
        · have := h5.1 i' k' hi' hk' (by omega) hv
          split <;> omega
      · by_cases c4 : t (rm (rm s i) k) + 1 ≤ v
        · rw [if_pos c4]; exact h5.2
        · rw [if_neg c4]; exact Or.inr ⟨i, k, hi, by omega, b1, rfl⟩
theorem q_lay25 (hO : OB (μm.1 402)) (eN : μm.1 402 0 = nI N) (hN : N ≤ 6) (hH : H ≤ 8) {s : Nat} (hs : s < 256) {t : Nat → Nat} (ht : ∀ x, x < s → 2 * t x ≤ pc8 x) : ∀ r i μ v fuel, i + r = H → (∀ c, c ≠ 413 → μ.1 c = μm.1 c) → (∀ x, x < s → μ.1 413 x = nI (t x)) → μ.1 413 s = nI v → 2 * v ≤ pc8 s → MXI (μm.1 402) N H t s i 0 v → r < fuel →
    ∃ μ' v', lp (fun q : Int32 × PM => lbX12_layPairs_25 (nI H) (nI s) q.1 q.2) fuel (nI i, μ) = some (.inl μ') ∧ (∀ c, c ≠ 413 → μ'.1 c = μm.1 c) ∧ (∀ x, x < s → μ'.1 413 x = nI (t x)) ∧ μ'.1 413 s = nI v' ∧ 2 * v' ≤ pc8 s ∧ MXI (μm.1 402) N H t s H 0 v' := by
  intro r
  induction r with
  | zero =>
    intro i μ v fuel hk h1 h2 h3 h4 h5 hf
    obtain ⟨f, rfl⟩ : ∃ f, fuel = f + 1 := ⟨fuel - 1, by omega⟩
    have e : i = H := by omega
    subst e
    refine ⟨μ, v, lp_e ?_, h1, h2, h3, h4, h5⟩
    show lbX12_layPairs_25 (nI i) (nI s) (nI i) μ = _
    unfold lbX12_layPairs_25
    rw [if_pos (by rw [le_n (by omega) (by omega)]; omega)]
  | succ r ih =>
    intro i μ v fuel hk h1 h2 h3 h4 h5 hf
    obtain ⟨f, rfl⟩ : ∃ f, fuel = f + 1 := ⟨fuel - 1, by omega⟩
    obtain ⟨μ', v', g1, g2, g3, g4, g5, g6⟩ := q_lay33 hO eN hN hH hs (show i < H by omega) ht H 0 μ v go_fuel (by omega) h1 h2 h3 h4 h5 (by unfold go_fuel; omega)
    have hb : lbX12_layPairs_25 (nI H) (nI s) (nI i) μ = some (.inl (nI (i + 1), μ')) := by
      unfold lbX12_layPairs_25
      have g1 : lp (fun q : Int32 × PM => lbX12_layPairs_33 (nI H) (nI s) (nI i) q.1 q.2) go_fuel (0, μ) = some (.inl μ') := g1
      rw [if_neg (by rw [le_n (by omega) (by omega)]; omega), g1, Option.bind_some, add_l 1]
      rfl
    rw [lp_l (s' := (nI (i + 1), μ')) hb]
    exact ih (i + 1) μ' v' f (by omega) g2 g3 g4 g5 ⟨fun i' k' hi' hk' hlt hv => g6.1 i' k' hi' hk' (by omega) hv, g6.2⟩ (by omega)
/-- the table -/
theorem q_layP (hO : OB (μm.1 402)) (eN : μm.1 402 0 = nI N) (hN : N ≤ 6) (eH : μm.1 402 5 = nI H) (hH : H ≤ 8) : ∃ μ' t, fX12_layPairs μm = some μ' ∧ (∀ c, c ≠ 413 → μ'.1 c = μm.1 c) ∧ ∀ s, s < 2 ^ H → μ'.1 413 s = nI (t s) ∧ tbR (μm.1 402) N H t s := by
  have hp : 2 ^ H ≤ 2 ^ 8 := Nat.pow_le_pow_right (by decide) hH
  obtain ⟨r, h1, t, h2, h3⟩ := lp_inv (f := fun q : Int32 × PM => lbX12_layPairs_9 (nI H) q.1 q.2) (fun q => ∃ (s : Nat) (t : Nat → Nat), s ≤ 2 ^ H ∧ q.1 = nI s ∧ (∀ c, c ≠ 413 → q.2.1 c = μm.1 c) ∧ ∀ x, x < s → q.2.1 413 x = nI (t x) ∧ tbR (μm.1 402) N H t x) (fun q => 2 ^ H - q.1.toNatClampNeg) (fun r => ∃ t : Nat → Nat, (∀ c, c ≠ 413 → r.1 c = μm.1 c) ∧ ∀ s, s < 2 ^ H → r.1 413 s = nI (t s) ∧ tbR (μm.1 402) N H t s) (fun q hI => by
    obtain ⟨q1, q2⟩ := q
    obtain ⟨s, t, hs, e, g1, g2⟩ := hI
    have e : q1 = nI s := e
    have g1 : ∀ c, c ≠ 413 → q2.1 c = μm.1 c := g1
    have g2 : ∀ x, x < s → q2.1 413 x = nI (t x) ∧ tbR (μm.1 402) N H t x := g2
    subst e
    dsimp only
    unfold lbX12_layPairs_9
    rw [nb_shl H (by omega)]
    have hle : nI (2 ^ H) ≤ nI s ↔ 2 ^ H ≤ s := le_n (by omega) (by omega)
    by_cases hlt : 2 ^ H ≤ s
    · right
      have : s = 2 ^ H := by omega
      subst this
      rw [if_pos (hle.mpr hlt)]
      exact ⟨_, rfl, t, g1, g2⟩
    · left
      simp only [go_let]
      rw [if_neg (fun z => hlt (hle.mp z)), chk_n (show s < 256 by omega) (by omega), cl_n (show s < 2147483648 by omega)]
      obtain ⟨μ', v', k1, k2, k3, k4, k5, k6⟩ := q_lay25 hO eN hN hH (show s < 256 by omega) (fun x hx => (g2 x hx).2.2.2) H 0 (pm_wi q2 413 s 0) 0 go_fuel (by omega) (fun c hc => by rw [wi_c hc]; exact g1 c hc) (fun x hx => by rw [wi_i (by omega)]; exact (g2 x hx).1) (by rw [wi_e]; rfl) (by omega) ⟨fun i' k' _ _ hlt _ => by omega, Or.inl rfl⟩ (by unfold go_fuel; omega)
      have k1 : lp (fun q : Int32 × PM => lbX12_layPairs_25 (nI H) (nI s) q.1 q.2) go_fuel (0, pm_wi q2 413 s 0) = some (.inl μ') := k1
      rw [k1, Option.bind_some, add_l 1]
      dsimp only [go_cs]
      obtain ⟨t', ht1, ht2⟩ : ∃ t' : Nat → Nat, t' s = v' ∧ ∀ x, x ≠ s → t' x = t x := ⟨fun x => if x = s then v' else t x, if_pos rfl, fun x h => if_neg h⟩
      refine ⟨_, rfl, ⟨s + 1, t', by omega, rfl, k2, fun x hx => ?_⟩, ?_⟩
      · by_cases e : x = s
        · rw [e]
          refine ⟨by rw [ht1]; exact k4, fun i k hi hk hv => ?_, ?_, by rw [ht1]; exact k5⟩
          · have := vp_lt (N := N) (a := μm.1 402) (show i < 8 by omega) (show k < 8 by omega) hv
            rw [ht1, ht2 _ (by omega)]
            exact k6.1 i k hi hk (Or.inl hi) hv
          · rw [ht1]
            rcases k6.2 with z | ⟨i, k, z1, z2, z3, z4⟩
            · exact Or.inl z
            · have := vp_lt (N := N) (a := μm.1 402) (show i < 8 by omega) (show k < 8 by omega) z3
              exact Or.inr ⟨i, k, z1, z2, z3, by rw [ht2 _ (by omega)]; exact z4⟩
        · have hxs : x < s := by omega
          obtain ⟨z0, z1, z2, z3⟩ := g2 x hxs
          refine ⟨by rw [ht2 x e]; exact k3 x hxs, fun i k hi hk hv => ?_, ?_, by rw [ht2 x e]; exact z3⟩
          · have := vp_lt (N := N) (a := μm.1 402) (show i < 8 by omega) (show k < 8 by omega) hv
            rw [ht2 x e, ht2 _ (by omega)]
            exact z1 i k hi hk hv
          · rw [ht2 x e]
            rcases z2 with z | ⟨i, k, y1, y2, y3, y4⟩
            · exact Or.inl z
            · have := vp_lt (N := N) (a := μm.1 402) (show i < 8 by omega) (show k < 8 by omega) y3
              exact Or.inr ⟨i, k, y1, y2, y3, by rw [ht2 _ (by omega)]; exact y4⟩
      · show 2 ^ H - (nI (s + 1)).toNatClampNeg < 2 ^ H - s
        rw [cl_n (by omega)]
        omega) go_fuel (0, μm) ⟨0, fun _ => 0, Nat.zero_le _, rfl, fun _ _ => rfl, fun x hx => by omega⟩ (by show 2 ^ H - _ < go_fuel; unfold go_fuel; omega)
  refine ⟨r, t, ?_, h2, h3⟩
  unfold fX12_layPairs
  rw [eH, h1]
  rfl
end LAY
section TT
variable {a : Nat → Int32} {N H : Nat} {t : Nat → Nat}
theorem rm_b {s i : Nat} (hs : s < 2 ^ H) : rm s i < 2 ^ H := Nat.lt_of_le_of_lt (rm_le s i) hs
/-- less to choose from, no more pairs -/
theorem tt_mono (hH : H ≤ 8) (ht : ∀ s, s < 2 ^ H → tbR a N H t s) (x : Nat) : ∀ n s, s < n → s < 2 ^ H → t (rm s x) ≤ t s := by
  intro n
  induction n with
  | zero => intro s h; omega
  | succ n ih =>
    intro s hn hs
    rcases (ht (rm s x) (rm_b hs)).2.1 with z | ⟨i, k, hi, hk, hv, he⟩
    · omega
    · have sub : ∀ j, j < 32 → (rm s x).testBit j = true → s.testBit j = true := fun j hj q => by
        rw [rm_bit s x hj, Bool.and_eq_true] at q
        exact q.1
      have hv' : vp a N s i k := ⟨hv.1, sub i (by omega) hv.2.1, sub k (by omega) hv.2.2.1, hv.2.2.2⟩
      have h1 := (ht s hs).1 i k hi hk hv'
      have h2 := ih (rm (rm s i) k) (by have := vp_lt (show i < 8 by omega) (show k < 8 by omega) hv'; omega) (rm_b (rm_b hs))
      have e : rm (rm (rm s x) i) k = rm (rm (rm s i) k) x := by rw [rm_comm s x i, rm_comm (rm s i) x k]
      rw [he, e]
      omega
end TT
