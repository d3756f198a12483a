/-! ===== comparisons by what the numbers are; what is asked of arguments; digits ===== -/
theorem i_lt {a b : Int32} : a < b ↔ a.toInt < b.toInt := Int32.lt_iff_toInt_lt
theorem i_le {a b : Int32} : a ≤ b ↔ a.toInt ≤ b.toInt := Int32.le_iff_toInt_le
theorem i_eq {a b : Int32} : a = b ↔ a.toInt = b.toInt := Int32.toInt_inj.symm
theorem q_ite {c : Prop} [Decidable c] {α : Type} {A B : α} : (if (if c then (1 : Int32) else 0) = 0 then A else B) = if c then B else A := by
  by_cases h : c
  · rw [if_pos h, if_pos h, if_neg (by decide)]
  · rw [if_neg h, if_neg h, if_pos rfl]
theorem q_isIn (v l h : Int32) : fX12_isIn v l h = if l.toInt ≤ v.toInt ∧ v.toInt ≤ h.toInt then 1 else 0 := by
  unfold fX12_isIn
  simp only [i_lt]
  repeat' split
  all_goals first | rfl | (exfalso; omega)
theorem q_cellC (v : Int32) : fX11_isCell v = if 0 ≤ v.toInt ∧ v.toInt ≤ 9 then 1 else 0 := by
  unfold fX11_isCell
  simp only [i_lt, i_le, show (0 : Int32).toInt = 0 from rfl, show (10 : Int32).toInt = 10 from rfl]
  repeat' split
  all_goals first | rfl | (exfalso; omega)
theorem q_cellM (v : Int32) : fX12_isCell v = if 0 ≤ v.toInt ∧ v.toInt ≤ 9 then 1 else 0 := q_isIn v 0 9
theorem q_nameC {μ : PM} {a : Nat → Int32} (h : VF μ 1 a) (hb : OB a) (v : Int32) : fX11_isName μ v = if 0 ≤ v.toInt ∧ v.toInt < (a 0).toInt then 1 else 0 := by
  unfold fX11_isName
  have := ob_names hb
  simp only [i_lt, i_le, v1_names h, show (0 : Int32).toInt = 0 from rfl, show (6 : Int32).toInt = 6 from rfl]
  repeat' split
  all_goals first | rfl | (exfalso; omega)
theorem q_nameM {μ : PM} (hb : OB (μ.1 402)) (v : Int32) : fX12_isName μ v = if 0 ≤ v.toInt ∧ v.toInt < (μ.1 402 0).toInt then 1 else 0 := by
  unfold fX12_isName
  have := ob_names hb
  rw [q_isIn, ti_sub (by rw [show (1 : Int32).toInt = 1 from rfl]; omega) (by rw [show (1 : Int32).toInt = 1 from rfl]; omega)]
  simp only [show (1 : Int32).toInt = 1 from rfl, show (0 : Int32).toInt = 0 from rfl]
  repeat' split
  all_goals first | rfl | (exfalso; omega)
theorem q_famC {μ : PM} {a : Nat → Int32} (h : VF μ 1 a) (hb : OB a) (v : Int32) : fX11_isFamily μ v = if 0 ≤ v.toInt ∧ v.toInt < (a 1).toInt then 1 else 0 := by
  unfold fX11_isFamily
  have := ob_families hb
  simp only [i_lt, i_le, v1_families h, show (0 : Int32).toInt = 0 from rfl, show (5 : Int32).toInt = 5 from rfl]
  repeat' split
  all_goals first | rfl | (exfalso; omega)
theorem q_famM {μ : PM} (hb : OB (μ.1 402)) (v : Int32) : fX12_isFamily μ v = if 0 ≤ v.toInt ∧ v.toInt < (μ.1 402 1).toInt then 1 else 0 := by
  unfold fX12_isFamily
  have := ob_families hb
  rw [q_isIn, ti_sub (by rw [show (1 : Int32).toInt = 1 from rfl]; omega) (by rw [show (1 : Int32).toInt = 1 from rfl]; omega)]
  simp only [show (1 : Int32).toInt = 1 from rfl, show (0 : Int32).toInt = 0 from rfl]
  repeat' split
  all_goals first | rfl | (exfalso; omega)
theorem q_textC {μ : PM} {a : Nat → Int32} (h : VF μ 1 a) (hb : OB a) (v : Int32) : fX11_isText μ v = if 0 ≤ v.toInt ∧ v.toInt < (a 2).toInt then 1 else 0 := by
  unfold fX11_isText
  have := ob_texts hb
  simp only [i_lt, i_le, v1_texts h, show (0 : Int32).toInt = 0 from rfl, show (4 : Int32).toInt = 4 from rfl]
  repeat' split
  all_goals first | rfl | (exfalso; omega)
/-- a number between 0 and k, by its name as a natural -/
theorem nz_of {v : Int32} {k : Int} (h0 : 0 ≤ v.toInt) (h1 : v.toInt < k) : ∃ n : Nat, v = nI n ∧ (n : Int) < k ∧ v.toInt = n := by
  have h := ti_cl h0
  exact ⟨v.toNatClampNeg, nI_cl h0, by omega, h.symm⟩
/-! digits -/
theorem le_0 {m : Nat} (h : m < 2147483648) : nI m ≤ 0 ↔ m = 0 := by
  have := @le_l 0 m h (by omega)
  rw [this]; omega
theorem lp_len (a0 : Int32) : ∀ n m c fuel, m < 10 ^ n → m < 2147483648 → n < fuel → lp (fun s => lbX12_lengthOf_4 a0 s.1 s.2) fuel (nI c, nI m) = some (nI (c + vz_len n m)) := by
  intro n
  induction n with
  | zero =>
    intro m c fuel hm hb hf
    obtain ⟨k, rfl⟩ : ∃ k, fuel = k + 1 := ⟨fuel - 1, by omega⟩
    have : m = 0 := by simp at hm; omega
    subst this
    refine lp_e ?_
    show lbX12_lengthOf_4 a0 (nI c) (nI 0) = _
    unfold lbX12_lengthOf_4
    rw [if_pos (by decide)]
    rfl
  | succ n ih =>
    intro m c fuel hm hb hf
    obtain ⟨k, rfl⟩ : ∃ k, fuel = k + 1 := ⟨fuel - 1, by omega⟩
    by_cases h0 : m = 0
    · subst h0
      refine lp_e ?_
      show lbX12_lengthOf_4 a0 (nI c) (nI 0) = _
      unfold lbX12_lengthOf_4
      rw [if_pos (by decide)]
      simp [vz_len]
    · have hs : lbX12_lengthOf_4 a0 (nI c) (nI m) = some (.inl (nI (c + 1), nI (m / 10))) := by
        unfold lbX12_lengthOf_4
        rw [if_neg (by rw [le_0 hb]; exact h0), add_l 1 c, div_l (n := 10) hb (by omega)]
      rw [lp_l (s' := (nI (c + 1), nI (m / 10))) hs, ih (m / 10) (c + 1) k (by rw [Nat.pow_succ] at hm; omega) (by omega) (by omega)]
      simp only [vz_len, if_neg h0]
      congr 2
      omega
theorem vz_len_s (n m : Nat) : vz_len (n + 1) m = if m = 0 then 0 else vz_len n (m / 10) + 1 := rfl
theorem vz_nz_s (n m : Nat) : vz_nz (n + 1) m = if m = 0 then true else decide (m % 10 ≠ 0) && vz_nz n (m / 10) := rfl
theorem lp_cnt_s (a0 : Int32) : ∀ n m c fuel, m < 10 ^ n → m < 2147483648 → n < fuel → c + n ≤ 5 → lp (fun s => lbX11_countSounds_18 a0 s.1 s.2) fuel (nI c, nI m) = some (if vz_nz (n + 1) m = true then nI (c + vz_len (n + 1) m) else 0) := by
  intro n
  induction n with
  | zero =>
    intro m c fuel hm hb hf hc
    obtain ⟨k, rfl⟩ : ∃ k, fuel = k + 1 := ⟨fuel - 1, by omega⟩
    have : m = 0 := by simp at hm; omega
    subst this
    refine lp_e ?_
    show lbX11_countSounds_18 a0 (nI c) (nI 0) = _
    unfold lbX11_countSounds_18
    rw [if_pos (by decide)]
    simp [vz_len, vz_nz]
  | succ n ih =>
    intro m c fuel hm hb hf hc
    obtain ⟨k, rfl⟩ : ∃ k, fuel = k + 1 := ⟨fuel - 1, by omega⟩
    have h5 : ¬ (5 : Int32) ≤ nI c := fun q => by
      have := (l_le (n := 5) (by omega) (by omega)).mp q
      omega
    by_cases h0 : m = 0
    · subst h0
      refine lp_e ?_
      show lbX11_countSounds_18 a0 (nI c) (nI 0) = _
      unfold lbX11_countSounds_18
      rw [if_pos (by decide)]
      simp [vz_len, vz_nz]
    · by_cases h1 : m % 10 = 0
      · refine lp_e ?_
        show lbX11_countSounds_18 a0 (nI c) (nI m) = _
        unfold lbX11_countSounds_18
        rw [if_neg (by rw [le_0 hb]; exact h0), if_neg h5, rem_l (n := 10) hb (by omega), h1, if_pos (show nI 0 = 0 from rfl)]
        rw [vz_nz]
        simp [h0, h1]
      · have hs : lbX11_countSounds_18 a0 (nI c) (nI m) = some (.inl (nI (c + 1), nI (m / 10))) := by
          unfold lbX11_countSounds_18
          rw [if_neg (by rw [le_0 hb]; exact h0), if_neg h5, rem_l (n := 10) hb (by omega), if_neg (by rw [eq_l (n := 0) (by omega) (by omega)]; exact h1), add_l 1 c, div_l (n := 10) hb (by omega)]
        rw [lp_l (s' := (nI (c + 1), nI (m / 10))) hs, ih (m / 10) (c + 1) k (by rw [Nat.pow_succ] at hm; omega) (by omega) (by omega) (by omega)]
        rw [vz_len_s (n + 1) m, vz_nz_s (n + 1) m, if_neg h0, if_neg h0]
        have e : c + 1 + vz_len (n + 1) (m / 10) = c + (vz_len (n + 1) (m / 10) + 1) := by omega
        simp [h1, e]
theorem lp_are (a0 : Int32) : ∀ n m fuel, m < 10 ^ n → m < 2147483648 → n < fuel → lp (fun s => lbX12_areSounds_14 a0 s) fuel (nI m) = some (if vz_nz n m = true then 1 else 0) := by
  intro n
  induction n with
  | zero =>
    intro m fuel hm hb hf
    obtain ⟨k, rfl⟩ : ∃ k, fuel = k + 1 := ⟨fuel - 1, by omega⟩
    have : m = 0 := by simp at hm; omega
    subst this
    refine lp_e ?_
    show lbX12_areSounds_14 a0 (nI 0) = _
    unfold lbX12_areSounds_14
    rw [if_pos (by decide)]
    rfl
  | succ n ih =>
    intro m fuel hm hb hf
    obtain ⟨k, rfl⟩ : ∃ k, fuel = k + 1 := ⟨fuel - 1, by omega⟩
    by_cases h0 : m = 0
    · subst h0
      refine lp_e ?_
      show lbX12_areSounds_14 a0 (nI 0) = _
      unfold lbX12_areSounds_14
      rw [if_pos (by decide)]
      simp [vz_nz]
    · by_cases h1 : m % 10 = 0
      · refine lp_e ?_
        show lbX12_areSounds_14 a0 (nI m) = _
        unfold lbX12_areSounds_14
        rw [if_neg (by rw [le_0 hb]; exact h0), rem_l (n := 10) hb (by omega), h1, if_pos (show nI 0 = 0 from rfl)]
        simp [vz_nz, h0, h1]
      · have hs : lbX12_areSounds_14 a0 (nI m) = some (.inl (nI (m / 10))) := by
          unfold lbX12_areSounds_14
          rw [if_neg (by rw [le_0 hb]; exact h0), rem_l (n := 10) hb (by omega), if_neg (by rw [eq_l (n := 0) (by omega) (by omega)]; exact h1), div_l (n := 10) hb (by omega)]
        rw [lp_l (s' := nI (m / 10)) hs, ih (m / 10) k (by rw [Nat.pow_succ] at hm; omega) (by omega) (by omega)]
        simp [vz_nz, h0, h1]
theorem vz_len_le : ∀ n m, vz_len n m ≤ n := by
  intro n
  induction n with
  | zero => intro m; exact Nat.le_refl _
  | succ n ih =>
    intro m
    have := ih (m / 10)
    simp only [vz_len]
    split <;> omega
theorem vz_len5 {m : Nat} (h1 : 1 ≤ m) (h2 : m ≤ 99999) : 1 ≤ vz_len 6 m ∧ vz_len 6 m ≤ 5 := by
  have key : ∀ n m, m < 10 ^ n → vz_len (n + 1) m ≤ n := by
    intro n
    induction n with
    | zero => intro m hm; have : m = 0 := by simp at hm; omega
              subst this; simp [vz_len]
    | succ n ih =>
      intro m hm
      have := ih (m / 10) (by rw [Nat.pow_succ] at hm; omega)
      rw [vz_len]
      split <;> omega
  refine ⟨?_, key 5 m (by omega)⟩
  rw [vz_len, if_neg (by omega)]
  omega
/-- SOUNDS, as both count them -/
theorem q_sounds (s : Int32) : (fX11_countSounds s = some 0 ∧ fX12_areSounds s = some 0) ∨ (vz_sd s ∧ ∃ k, 1 ≤ k ∧ k ≤ 5 ∧ fX11_countSounds s = some (nI k) ∧ fX12_areSounds s = some 1 ∧ fX12_lengthOf s = some (nI k) ∧ k = vz_len 6 s.toNatClampNeg) := by
  unfold fX11_countSounds fX12_areSounds
  rw [q_isIn, q_ite]
  simp only [i_lt, i_le, show (1 : Int32).toInt = 1 from rfl, show (99999 : Int32).toInt = 99999 from rfl]
  by_cases h1 : s.toInt < 1
  · left
    rw [if_pos h1, if_neg (by omega)]
    exact ⟨rfl, rfl⟩
  by_cases h2 : s.toInt ≤ 99999
  · rw [if_neg h1, if_pos h2, if_pos (by omega)]
    obtain ⟨m, rfl, hm, hm2⟩ := nz_of (v := s) (k := 100000) (by omega) (by omega)
    have hc : lp (fun s => lbX11_countSounds_18 (nI m) s.1 s.2) go_fuel (nI 0, nI m) = some (if vz_nz 6 m = true then nI (0 + vz_len 6 m) else 0) := lp_cnt_s (nI m) 5 m 0 go_fuel (by omega) (by omega) (by decide) (by omega)
    have ha := lp_are (nI m) 6 m go_fuel (by omega) (by omega) (by decide)
    have hl := lp_len (nI m) 6 m 0 go_fuel (by omega) (by omega) (by decide)
    have e0 : (0, nI m) = (nI 0, nI m) := rfl
    unfold fX12_lengthOf
    rw [e0, hc, ha, hl]
    have h5 := vz_len5 (m := m) (by omega) (by omega)
    have hcl : (nI m).toNatClampNeg = m := cl_n (by omega)
    by_cases hz : vz_nz 6 m = true
    · right
      refine ⟨⟨by omega, by omega, by rw [hcl]; exact hz⟩, vz_len 6 m, h5.1, h5.2, ?_, ?_, ?_, by rw [hcl]⟩
      · rw [if_pos hz, Nat.zero_add]; rfl
      · rw [if_pos hz]; rfl
      · rw [Nat.zero_add]; rfl
    · left
      rw [if_neg hz, if_neg hz]
      exact ⟨rfl, rfl⟩
  · left
    rw [if_neg h1, if_neg h2, if_neg (by omega)]
    exact ⟨rfl, rfl⟩
theorem q_len {s : Int32} (h : vz_sd s) : ∃ k, 1 ≤ k ∧ k ≤ 5 ∧ fX11_countSounds s = some (nI k) ∧ fX12_areSounds s = some 1 ∧ fX12_lengthOf s = some (nI k) ∧ k = vz_len 6 s.toNatClampNeg := by
  rcases q_sounds s with ⟨h1, h2⟩ | ⟨-, h⟩
  · exfalso
    obtain ⟨a, b, c⟩ := h
    unfold fX12_areSounds at h2
    rw [q_isIn, q_ite] at h2
    simp only [show (1 : Int32).toInt = 1 from rfl, show (99999 : Int32).toInt = 99999 from rfl] at h2
    rw [if_pos (by omega)] at h2
    obtain ⟨m, rfl, hm, hm2⟩ := nz_of (v := s) (k := 100000) (by omega) (by omega)
    rw [lp_are (nI m) 6 m go_fuel (by omega) (by omega) (by decide)] at h2
    rw [cl_n (by omega)] at c
    rw [if_pos c] at h2
    cases h2
  · exact h
