/-! how many digits at the end are alike -/
def vz_rh : Nat → Nat → Nat → Nat
  | 0, _, _ => 0
  | n + 1, m, k => if m = 0 ∨ k = 0 then 0 else if m % 10 = k % 10 then vz_rh n (m / 10) (k / 10) + 1 else 0
theorem vz_rh_s (n m k : Nat) : vz_rh (n + 1) m k = if m = 0 ∨ k = 0 then 0 else if m % 10 = k % 10 then vz_rh n (m / 10) (k / 10) + 1 else 0 := rfl
theorem vz_rh_le : ∀ n m k, vz_rh n m k ≤ n := by
  intro n
  induction n with
  | zero => intro m k; exact Nat.le_refl _
  | succ n ih =>
    intro m k
    have := ih (m / 10) (k / 10)
    simp only [vz_rh]
    repeat' split
    all_goals omega
theorem lp_rhC (a0 a1 : Int32) : ∀ n m k c fuel, m < 10 ^ n → m < 2147483648 → k < 2147483648 → n < fuel → c + n ≤ 5 → lp (fun s => lbX11_countShared_7 a0 a1 s.1 s.2.1 s.2.2) fuel (nI c, nI m, nI k) = some (nI (c + vz_rh (n + 1) m k)) := by
  intro n
  induction n with
  | zero =>
    intro m k c fuel hm hb hb2 hf hc
    obtain ⟨fl, rfl⟩ : ∃ fl, fuel = fl + 1 := ⟨fuel - 1, by omega⟩
    have : m = 0 := by simp at hm; omega
    subst this
    refine lp_e ?_
    show lbX11_countShared_7 a0 a1 (nI c) (nI 0) (nI k) = _
    unfold lbX11_countShared_7
    by_cases h5 : (5 : Int32) ≤ nI c
    · rw [if_pos h5]
      simp [vz_rh]
    · rw [if_neg h5, if_pos (by decide)]
      simp [vz_rh]
  | succ n ih =>
    intro m k c fuel hm hb hb2 hf hc
    obtain ⟨fl, rfl⟩ : ∃ fl, fuel = fl + 1 := ⟨fuel - 1, by omega⟩
    have h5 : ¬ (5 : Int32) ≤ nI c := fun q => by
      have := (l_le (n := 5) (by omega) (by omega)).mp q
      omega
    have hm0 := le_0 hb
    have hk0 := le_0 hb2
    have hrem : jrem (nI m) 10 = jrem (nI k) 10 ↔ m % 10 = k % 10 := by
      rw [rem_l (n := 10) hb (by omega), rem_l (n := 10) hb2 (by omega)]
      exact eq_n (by omega) (by omega)
    by_cases h0 : m = 0
    · refine lp_e ?_
      show lbX11_countShared_7 a0 a1 (nI c) (nI m) (nI k) = _
      unfold lbX11_countShared_7
      rw [if_neg h5, if_pos (hm0.mpr h0)]
      rw [vz_rh_s (n + 1) m k]
      simp [h0]
    by_cases h1 : k = 0
    · refine lp_e ?_
      show lbX11_countShared_7 a0 a1 (nI c) (nI m) (nI k) = _
      unfold lbX11_countShared_7
      rw [if_neg h5, if_neg (fun q => h0 (hm0.mp q)), if_pos (hk0.mpr h1)]
      rw [vz_rh_s (n + 1) m k]
      simp [h1]
    by_cases h2 : m % 10 = k % 10
    · have hs : lbX11_countShared_7 a0 a1 (nI c) (nI m) (nI k) = some (.inl (nI (c + 1), nI (m / 10), nI (k / 10))) := by
        unfold lbX11_countShared_7
        rw [if_neg h5, if_neg (fun q => h0 (hm0.mp q)), if_neg (fun q => h1 (hk0.mp q)), if_pos (hrem.mpr h2), add_l 1 c, div_l (n := 10) hb (by omega), div_l (n := 10) hb2 (by omega)]
      rw [lp_l (s' := (nI (c + 1), nI (m / 10), nI (k / 10))) hs, ih (m / 10) (k / 10) (c + 1) fl (by rw [Nat.pow_succ] at hm; omega) (by omega) (by omega) (by omega) (by omega)]
      have e : c + 1 + vz_rh (n + 1) (m / 10) (k / 10) = c + (vz_rh (n + 1) (m / 10) (k / 10) + 1) := by omega
      rw [vz_rh_s (n + 1) m k]
      simp [h0, h1, h2, e]
    · refine lp_e ?_
      show lbX11_countShared_7 a0 a1 (nI c) (nI m) (nI k) = _
      unfold lbX11_countShared_7
      rw [if_neg h5, if_neg (fun q => h0 (hm0.mp q)), if_neg (fun q => h1 (hk0.mp q)), if_neg (fun q => h2 (hrem.mp q))]
      rw [vz_rh_s (n + 1) m k]
      simp [h0, h1, h2]
theorem lp_rhM (μ : PM) (a0 a1 : Int32) : ∀ n m k c fuel, m < 10 ^ n → m < 2147483648 → k < 2147483648 → n < fuel → lp (fun s => lbX12_rhymeOf_24 μ a0 a1 s.1 s.2.1 s.2.2) fuel (nI m, nI k, nI c) = some (nI (c + vz_rh n m k)) := by
  intro n
  induction n with
  | zero =>
    intro m k c fuel hm hb hb2 hf
    obtain ⟨fl, rfl⟩ : ∃ fl, fuel = fl + 1 := ⟨fuel - 1, by omega⟩
    have : m = 0 := by simp at hm; omega
    subst this
    refine lp_e ?_
    show lbX12_rhymeOf_24 μ a0 a1 (nI 0) (nI k) (nI c) = _
    unfold lbX12_rhymeOf_24
    rw [if_pos (by decide)]
    rfl
  | succ n ih =>
    intro m k c fuel hm hb hb2 hf
    obtain ⟨fl, rfl⟩ : ∃ fl, fuel = fl + 1 := ⟨fuel - 1, by omega⟩
    have hm0 := le_0 hb
    have hk0 := le_0 hb2
    have hrem : jrem (nI m) 10 = jrem (nI k) 10 ↔ m % 10 = k % 10 := by
      rw [rem_l (n := 10) hb (by omega), rem_l (n := 10) hb2 (by omega)]
      exact eq_n (by omega) (by omega)
    by_cases h0 : m = 0
    · refine lp_e ?_
      show lbX12_rhymeOf_24 μ a0 a1 (nI m) (nI k) (nI c) = _
      unfold lbX12_rhymeOf_24
      rw [if_pos (hm0.mpr h0)]
      simp [vz_rh, h0]
    by_cases h1 : k = 0
    · refine lp_e ?_
      show lbX12_rhymeOf_24 μ a0 a1 (nI m) (nI k) (nI c) = _
      unfold lbX12_rhymeOf_24
      rw [if_neg (fun q => h0 (hm0.mp q)), if_pos (hk0.mpr h1)]
      simp [vz_rh, h1]
    by_cases h2 : m % 10 = k % 10
    · have hs : lbX12_rhymeOf_24 μ a0 a1 (nI m) (nI k) (nI c) = some (.inl (nI (m / 10), nI (k / 10), nI (c + 1))) := by
        unfold lbX12_rhymeOf_24
        rw [if_neg (fun q => h0 (hm0.mp q)), if_neg (fun q => h1 (hk0.mp q)), if_pos (hrem.mpr h2), add_l 1 c, div_l (n := 10) hb (by omega), div_l (n := 10) hb2 (by omega)]
      rw [lp_l (s' := (nI (m / 10), nI (k / 10), nI (c + 1))) hs, ih (m / 10) (k / 10) (c + 1) fl (by rw [Nat.pow_succ] at hm; omega) (by omega) (by omega) (by omega)]
      have e : c + 1 + vz_rh n (m / 10) (k / 10) = c + (vz_rh n (m / 10) (k / 10) + 1) := by omega
      simp [vz_rh, h0, h1, h2, e]
    · refine lp_e ?_
      show lbX12_rhymeOf_24 μ a0 a1 (nI m) (nI k) (nI c) = _
      unfold lbX12_rhymeOf_24
      rw [if_neg (fun q => h0 (hm0.mp q)), if_neg (fun q => h1 (hk0.mp q)), if_neg (fun q => h2 (hrem.mp q))]
      simp [vz_rh, h0, h1, h2]
/-- how two NAMES rhyme -/
def vz_rr (a : Nat → Int32) (n k : Nat) : Nat := vz_rh 6 (a (30 + n)).toNatClampNeg (a (30 + k)).toNatClampNeg
theorem q_rhC {μ : PM} {a : Nat → Int32} (hF : VF μ 1 a) (hO : OB a) {n k : Nat} (hn : n < 6) (hk : k < 6) : fX11_countShared (μ.1 2 n) (μ.1 2 k) = some (nI (vz_rr a n k)) := by
  rw [v1_sounds hF hn, v1_sounds hF hk]
  obtain ⟨m, e1, hm, -⟩ := nz_of (v := a (30 + n)) (k := 100000) (ob_sounds hO hn).1 (by have := (ob_sounds hO hn).2; omega)
  obtain ⟨l, e2, hl, -⟩ := nz_of (v := a (30 + k)) (k := 100000) (ob_sounds hO hk).1 (by have := (ob_sounds hO hk).2; omega)
  unfold fX11_countShared vz_rr
  rw [e1, e2, show ((0 : Int32), nI m, nI l) = (nI 0, nI m, nI l) from rfl, lp_rhC _ _ 5 m l 0 go_fuel (by omega) (by omega) (by omega) (by decide) (by omega), cl_n (by omega), cl_n (by omega), Nat.zero_add]
  rfl
theorem q_rhM {μ : PM} (hO : OB (μ.1 402)) {n k : Nat} (hn : n < 6) (hk : k < 6) : fX12_rhymeOf μ (nI n) (nI k) = some (nI (vz_rr (μ.1 402) n k)) := by
  obtain ⟨m, e1, hm, -⟩ := nz_of (v := μ.1 402 (30 + n)) (k := 100000) (ob_sounds hO hn).1 (by have := (ob_sounds hO hn).2; omega)
  obtain ⟨l, e2, hl, -⟩ := nz_of (v := μ.1 402 (30 + k)) (k := 100000) (ob_sounds hO hk).1 (by have := (ob_sounds hO hk).2; omega)
  unfold fX12_rhymeOf vz_rr
  simp (disch := omega) only [l_add 30, chk_n, cl_n, go_let]
  rw [e1, e2, show (nI m, nI l, (0 : Int32)) = (nI m, nI l, nI 0) from rfl, lp_rhM _ _ _ 6 m l 0 go_fuel (by omega) (by omega) (by omega) (by decide), cl_n (by omega), cl_n (by omega), Nat.zero_add]
  rfl
theorem c_rhyme (x y : Int32) {μc μm : PM} (h : RR μc μm) : ∃ r, fX11_rhyme μc x y = some r ∧ fX12_rhyme μm x y = some r := by
  have hV := h.1
  have hO := hV.2.2.2.1
  have hb := ob_names hO
  unfold fX11_rhyme fX12_rhyme
  rw [q_nameC hV.1 hO, q_nameM hO, q_ite, q_ite, q_nameC hV.1 hO, q_nameM hO, q_ite, q_ite]
  by_cases hx : 0 ≤ x.toInt ∧ x.toInt < (μm.1 402 0).toInt
  · by_cases hy : 0 ≤ y.toInt ∧ y.toInt < (μm.1 402 0).toInt
    · simp only [if_pos hx, if_pos hy]
      obtain ⟨n, rfl, hn, -⟩ := nz_of (v := x) (k := 6) hx.1 (by omega)
      obtain ⟨k, rfl, hk, -⟩ := nz_of (v := y) (k := 6) hy.1 (by omega)
      simp (disch := omega) only [chk_n, cl_n]
      rw [q_rhC hV.1 hO (by omega) (by omega), q_rhM hO (by omega) (by omega)]
      exact ⟨_, rfl, rfl⟩
    · simp only [if_pos hx, if_neg hy]
      exact ⟨_, rfl, rfl⟩
  · simp only [if_neg hx]
    exact ⟨_, rfl, rfl⟩
theorem c_kindred (x : Int32) {μc μm : PM} (h : RR μc μm) : ∃ r, fX11_kindred μc x = some r ∧ fX12_kindred μm x = some r := by
  have hV := h.1
  have hO := hV.2.2.2.1
  have hb := ob_names hO
  obtain ⟨N, hN, hN6, hN2⟩ := nz_of (v := μm.1 402 0) (k := 7) hb.1 (by omega)
  have hNc : μc.1 12 5 = nI N := by rw [v1_names hV.1]; exact hN
  unfold fX11_kindred fX12_kindred
  rw [q_nameC hV.1 hO, q_nameM hO, q_ite, q_ite]
  by_cases hx : 0 ≤ x.toInt ∧ x.toInt < (μm.1 402 0).toInt
  case neg =>
    rw [if_neg hx, if_neg hx]
    exact ⟨_, rfl, rfl⟩
  simp only [if_pos hx]
  obtain ⟨n, rfl, hn, -⟩ := nz_of (v := x) (k := 6) hx.1 (by omega)
  have step : ∀ (s : Int32 × Int32 × Int32) (t : Int32 × Int32), (∃ i, i ≤ N ∧ s.2.2 = nI i ∧ t = (s.1, nI i) ∧ ((s.1 = -1 ∧ s.2.1 = 0) ∨ ∃ b, b < N ∧ s.1 = nI b ∧ s.2.1 = nI (vz_rr (μm.1 402) n b))) → (∃ s' t', lbX11_kindred_17 μc (nI n) s.1 s.2.1 s.2.2 = some (.inl s') ∧ lbX12_kindred_14 μm (nI n) t.1 t.2 = some (.inl t') ∧ (∃ i, i ≤ N ∧ s'.2.2 = nI i ∧ t' = (s'.1, nI i) ∧ ((s'.1 = -1 ∧ s'.2.1 = 0) ∨ ∃ b, b < N ∧ s'.1 = nI b ∧ s'.2.1 = nI (vz_rr (μm.1 402) n b))) ∧ N - s'.2.2.toNatClampNeg < N - s.2.2.toNatClampNeg) ∨ (∃ r r', lbX11_kindred_17 μc (nI n) s.1 s.2.1 s.2.2 = some (.inr r) ∧ lbX12_kindred_14 μm (nI n) t.1 t.2 = some (.inr r') ∧ r = r') := by
    rintro ⟨b, m, j⟩ t ⟨i, hi, hj, rfl, hinv⟩
    dsimp only at hj hinv ⊢
    subst hj
    unfold lbX11_kindred_17 lbX12_kindred_14 jjX11_kindred_68_17 jjX12_kindred_50_14
    rw [hNc, hN]
    by_cases hiN : i = N
    · subst hiN
      right
      have hle : nI i ≤ nI i := by rw [le_n (by omega) (by omega)]; omega
      simp only [if_pos hle]
      exact ⟨b, b, rfl, rfl, rfl⟩
    left
    have hle : ¬ nI N ≤ nI i := by rw [le_n (by omega) (by omega)]; omega
    have h6 : ¬ (6 : Int32) ≤ nI i := fun q => by have := (l_le (n := 6) (by omega) (by omega)).mp q; omega
    simp (disch := omega) only [if_neg hle, if_neg h6, chk_n, cl_n, add_l 1]
    by_cases hin : nI i = nI n
    · have hm0 : ¬ ((0 : Int32) > m) := by
        rcases hinv with ⟨-, rfl⟩ | ⟨b', -, -, rfl⟩
        · decide
        · exact nI_pos (by have := vz_rh_le 6 ((μm.1 402 (30 + n)).toNatClampNeg) ((μm.1 402 (30 + b')).toNatClampNeg); unfold vz_rr; omega)
      simp only [if_pos hin, if_pos (Int32.not_lt.mp hm0)]
      refine ⟨_, _, rfl, rfl, ⟨i + 1, by omega, rfl, rfl, hinv⟩, ?_⟩
      dsimp only
      rw [cl_n (by omega)]; omega
    · simp only [if_neg hin]
      rw [q_rhC hV.1 hO (by omega) (by omega), q_rhM hO (by omega) (by omega), Option.bind_some, Option.bind_some]
      have hr6 := vz_rh_le 6 ((μm.1 402 (30 + n)).toNatClampNeg) ((μm.1 402 (30 + i)).toNatClampNeg)
      rcases hinv with ⟨rfl, rfl⟩ | ⟨b', hb', rfl, rfl⟩
      · simp only [if_true]
        by_cases hc : nI (vz_rr (μm.1 402) n i) ≤ 0
        · simp only [if_pos hc]
          refine ⟨_, _, rfl, rfl, ⟨i + 1, by omega, rfl, rfl, Or.inl ⟨rfl, rfl⟩⟩, ?_⟩
          dsimp only
          rw [cl_n (by omega)]; omega
        · simp only [if_neg hc]
          refine ⟨_, _, rfl, rfl, ⟨i + 1, by omega, rfl, rfl, Or.inr ⟨i, by omega, rfl, rfl⟩⟩, ?_⟩
          dsimp only
          rw [cl_n (by omega)]; omega
      · have hne : ¬ nI b' = -1 := by rw [neg1_ne (by omega)]; exact id
        simp only [if_neg hne]
        rw [q_rhM hO (by omega) (by omega), Option.bind_some]
        by_cases hc : nI (vz_rr (μm.1 402) n i) ≤ nI (vz_rr (μm.1 402) n b')
        · simp only [if_pos hc]
          refine ⟨_, _, rfl, rfl, ⟨i + 1, by omega, rfl, rfl, Or.inr ⟨b', hb', rfl, rfl⟩⟩, ?_⟩
          dsimp only
          rw [cl_n (by omega)]; omega
        · simp only [if_neg hc]
          refine ⟨_, _, rfl, rfl, ⟨i + 1, by omega, rfl, rfl, Or.inr ⟨i, by omega, rfl, rfl⟩⟩, ?_⟩
          dsimp only
          rw [cl_n (by omega)]; omega
  obtain ⟨r, r', h1, h2, h3⟩ := lp_two (f := fun s : Int32 × Int32 × Int32 => lbX11_kindred_17 μc (nI n) s.1 s.2.1 s.2.2) (g := fun s : Int32 × Int32 => lbX12_kindred_14 μm (nI n) s.1 s.2) _ (fun s => N - s.2.2.toNatClampNeg) (fun r r' => r = r') step go_fuel go_fuel (-1, 0, 0) (-1, 0) ⟨0, by omega, rfl, rfl, Or.inl ⟨rfl, rfl⟩⟩ (by unfold go_fuel; omega) (by unfold go_fuel; omega)
  rw [h1, h2, h3]
  exact ⟨r', rfl, rfl⟩
theorem c_next {μc μm : PM} (h : RR μc μm) : ∃ r, fX11_next μc = some r ∧ fX12_next μm = some r := by
  have hV := h.1
  have hO := hV.2.2.2.1
  have hb := ob_names hO
  obtain ⟨N, hN, hN6, hN2⟩ := nz_of (v := μm.1 402 0) (k := 7) hb.1 (by omega)
  have hNc : μc.1 12 5 = nI N := by rw [v1_names hV.1]; exact hN
  unfold fX11_next fX12_next
  have step : ∀ (s : Int32 × Int32 × Int32) (t : Int32 × Int32), (∃ i, i ≤ N ∧ s.2.2 = nI i ∧ t = (s.1, nI i) ∧ ((s.1 = -1 ∧ s.2.1 = -1) ∨ ∃ b, b < N ∧ s.1 = nI b ∧ s.2.1 = μm.1 402 (12 + 2 * b) ∧ 0 ≤ s.2.1.toInt)) → (∃ s' t', lbX11_next_6 μc s.1 s.2.1 s.2.2 = some (.inl s') ∧ lbX12_next_4 μm t.1 t.2 = some (.inl t') ∧ (∃ i, i ≤ N ∧ s'.2.2 = nI i ∧ t' = (s'.1, nI i) ∧ ((s'.1 = -1 ∧ s'.2.1 = -1) ∨ ∃ b, b < N ∧ s'.1 = nI b ∧ s'.2.1 = μm.1 402 (12 + 2 * b) ∧ 0 ≤ s'.2.1.toInt)) ∧ N - s'.2.2.toNatClampNeg < N - s.2.2.toNatClampNeg) ∨ (∃ r r', lbX11_next_6 μc s.1 s.2.1 s.2.2 = some (.inr r) ∧ lbX12_next_4 μm t.1 t.2 = some (.inr r') ∧ r = r') := by
    rintro ⟨b, m, j⟩ t ⟨i, hi, hj, rfl, hinv⟩
    dsimp only at hj hinv ⊢
    subst hj
    unfold lbX11_next_6 lbX12_next_4 jjX12_next_46_4 fX12_get
    rw [hNc, hN]
    by_cases hiN : i = N
    · subst hiN
      right
      have hle : nI i ≤ nI i := by rw [le_n (by omega) (by omega)]; omega
      simp only [if_pos hle]
      exact ⟨b, b, rfl, rfl, rfl⟩
    left
    have hle : ¬ nI N ≤ nI i := by rw [le_n (by omega) (by omega)]; omega
    have h6 : ¬ (6 : Int32) ≤ nI i := fun q => by have := (l_le (n := 6) (by omega) (by omega)).mp q; omega
    simp (disch := omega) only [if_neg hle, if_neg h6, l_mul 2, l_add 12, add_l 0, Nat.add_zero, chk_n, cl_n, add_l 1, go_let, Option.bind_some]
    rw [v1_place hV.1 (by omega), q_cellM, q_ite]
    have hpl := ob_place hO (n := i) (by omega)
    simp only [i_le, show (10 : Int32).toInt = 10 from rfl]
    have fin : ∀ (s' : Int32 × Int32 × Int32), s'.2.2 = nI (i + 1) → N - s'.2.2.toNatClampNeg < N - i := fun s' hs => by rw [hs, cl_n (by omega)]; omega
    rcases hinv with ⟨rfl, rfl⟩ | ⟨b', hb', rfl, rfl, h0⟩
    · simp only [if_true, show (-1 : Int32).toInt = -1 from rfl]
      by_cases hc : 0 ≤ (μm.1 402 (12 + 2 * i)).toInt ∧ (μm.1 402 (12 + 2 * i)).toInt ≤ 9
      · rw [if_neg (by omega), if_neg (by omega), if_pos hc]
        exact ⟨_, _, rfl, rfl, ⟨i + 1, by omega, rfl, rfl, Or.inr ⟨i, by omega, rfl, rfl, hc.1⟩⟩, fin _ rfl⟩
      · rw [if_neg (c := 0 ≤ (μm.1 402 (12 + 2 * i)).toInt ∧ (μm.1 402 (12 + 2 * i)).toInt ≤ 9) hc]
        refine ⟨(-1, -1, nI (i + 1)), _, ?_, rfl, ⟨i + 1, by omega, rfl, rfl, Or.inl ⟨rfl, rfl⟩⟩, fin _ rfl⟩
        split
        · rfl
        · rw [if_pos (by omega)]
    · have hne : ¬ nI b' = -1 := by rw [neg1_ne (by omega)]; exact id
      simp (disch := omega) only [if_neg hne, l_mul 2, l_add 12, add_l 0, Nat.add_zero, chk_n, cl_n, Option.bind_some]
      by_cases hc : (0 ≤ (μm.1 402 (12 + 2 * i)).toInt ∧ (μm.1 402 (12 + 2 * i)).toInt ≤ 9) ∧ (μm.1 402 (12 + 2 * b')).toInt < (μm.1 402 (12 + 2 * i)).toInt
      · rw [if_neg (by omega), if_neg (by omega), if_pos hc.1, if_neg (by omega)]
        exact ⟨_, _, rfl, rfl, ⟨i + 1, by omega, rfl, rfl, Or.inr ⟨i, by omega, rfl, rfl, hc.1.1⟩⟩, fin _ rfl⟩
      · refine ⟨(nI b', μm.1 402 (12 + 2 * b'), nI (i + 1)), (nI b', nI (i + 1)), ?_, ?_, ⟨i + 1, by omega, rfl, rfl, Or.inr ⟨b', hb', rfl, rfl, h0⟩⟩, fin _ rfl⟩
        · split
          · rfl
          · rw [if_pos (by omega)]
        · split
          · rw [if_pos (by omega)]
          · rfl
  obtain ⟨r, r', h1, h2, h3⟩ := lp_two (f := fun s : Int32 × Int32 × Int32 => lbX11_next_6 μc s.1 s.2.1 s.2.2) (g := fun s : Int32 × Int32 => lbX12_next_4 μm s.1 s.2) _ (fun s => N - s.2.2.toNatClampNeg) (fun r r' => r = r') step go_fuel go_fuel (-1, -1, 0) (-1, 0) ⟨0, by omega, rfl, rfl, Or.inl ⟨rfl, rfl⟩⟩ (by unfold go_fuel; omega) (by unfold go_fuel; omega)
  rw [h1, h2, h3]
  exact ⟨r', rfl, rfl⟩
theorem c_ledger (w : Int32) {μc μm : PM} (h : RR μc μm) : ∃ r, fX11_ledger μc w = some r ∧ fX12_ledger μm w = some r := by
  have hV := h.1
  have hO := hV.2.2.2.1
  have hb := ob_written hO
  obtain ⟨N, hN, hN6, hN2⟩ := nz_of (v := μm.1 402 11) (k := 31) hb.1 (by omega)
  have hNc : μc.1 12 4 = nI N := by rw [v1_written hV.1]; exact hN
  unfold fX11_ledger fX12_ledger
  rw [q_isIn, q_ite]
  simp only [i_lt, i_le, show (0 : Int32).toInt = 0 from rfl, show (2 : Int32).toInt = 2 from rfl]
  by_cases hw : 0 ≤ w.toInt ∧ w.toInt ≤ 2
  case neg =>
    rw [if_neg (c := 0 ≤ w.toInt ∧ w.toInt ≤ 2) hw]
    refine ⟨-2, ?_, rfl⟩
    split
    · rfl
    · rw [if_neg (by omega)]
  rw [if_neg (by omega), if_pos (by omega), if_pos hw]
  have step : ∀ (s t : Int32 × Int32), (s = t ∧ ∃ i, i ≤ N ∧ s.2 = nI i) → (∃ s' t', lbX11_ledger_16 μc w s.1 s.2 = some (.inl s') ∧ lbX12_ledger_16 μm w t.1 t.2 = some (.inl t') ∧ (s' = t' ∧ ∃ i, i ≤ N ∧ s'.2 = nI i) ∧ N - s'.2.toNatClampNeg < N - s.2.toNatClampNeg) ∨ (∃ r r', lbX11_ledger_16 μc w s.1 s.2 = some (.inr r) ∧ lbX12_ledger_16 μm w t.1 t.2 = some (.inr r') ∧ r = r') := by
    rintro ⟨c, j⟩ t ⟨rfl, i, hi, hj⟩
    dsimp only at hj ⊢
    subst hj
    unfold lbX11_ledger_16 lbX12_ledger_16 jjX12_ledger_43_16 fX12_entry
    rw [hNc, hN]
    by_cases hiN : i = N
    · subst hiN
      right
      have hle : nI i ≤ nI i := by rw [le_n (by omega) (by omega)]; omega
      simp only [if_pos hle]
      exact ⟨c, c, rfl, rfl, rfl⟩
    left
    have hle : ¬ nI N ≤ nI i := by rw [le_n (by omega) (by omega)]; omega
    have h30 : ¬ (30 : Int32) ≤ nI i := by rw [l_le (n := 30) (by omega) (by omega)]; omega
    have e := (q_line (hV.2.1 i (by omega))).2.2.1
    rw [show 1 + 15 = 16 from rfl] at e
    simp (disch := omega) only [if_neg hle, if_neg h30, l_add 1762, chk_n, cl_n, add_l 1, go_let]
    simp only [if_neg (show ¬ (2 : Int32) = 0 by decide), if_neg (show ¬ (2 : Int32) = 1 by decide), if_true, Option.bind_some, e]
    have fin : ∀ (s' : Int32 × Int32), s'.2 = nI (i + 1) → N - s'.2.toNatClampNeg < N - i := fun s' hs => by rw [hs, cl_n (by omega)]; omega
    by_cases hc : jrem (μm.1 402 (1762 + i) / 10) 3 = w
    · simp only [if_pos hc]
      exact ⟨_, _, rfl, rfl, ⟨rfl, i + 1, by omega, rfl⟩, fin _ rfl⟩
    · simp only [if_neg hc]
      refine ⟨_, _, rfl, rfl, ⟨?_, i + 1, by omega, rfl⟩, fin _ rfl⟩
      have : c + 0 = c := Int32.add_zero c
      rw [this]
  obtain ⟨r, r', h1, h2, h3⟩ := lp_two (f := fun s : Int32 × Int32 => lbX11_ledger_16 μc w s.1 s.2) (g := fun s : Int32 × Int32 => lbX12_ledger_16 μm w s.1 s.2) _ (fun s => N - s.2.toNatClampNeg) (fun r r' => r = r') step go_fuel go_fuel (0, 0) (0, 0) ⟨rfl, 0, by omega, rfl⟩ (by unfold go_fuel; omega) (by unfold go_fuel; omega)
  rw [h1, h2, h3]
  exact ⟨r', rfl, rfl⟩
/-! how many bits; who has most -/
theorem q_bits : ∀ k, k < 1024 → fX12_bits (nI k) = some (fJ6_bitCount_0f7a4 (nI k)) ∧ 0 ≤ (fJ6_bitCount_0f7a4 (nI k)).toInt := by decide +kernel
theorem c_richest {μc μm : PM} (h : RR μc μm) : ∃ r, fX11_richest μc = some r ∧ fX12_richest μm = some r := by
  have hV := h.1
  have hO := hV.2.2.2.1
  have hb := ob_names hO
  have hbf := ob_families hO
  obtain ⟨N, hN, hN6, hN2⟩ := nz_of (v := μm.1 402 0) (k := 7) hb.1 (by omega)
  have hNc : μc.1 12 5 = nI N := by rw [v1_names hV.1]; exact hN
  obtain ⟨F, hF, hF5, hF2⟩ := nz_of (v := μm.1 402 1) (k := 6) hbf.1 (by omega)
  have hFc : μc.1 12 6 = nI F := by rw [v1_families hV.1]; exact hF
  have hM : ∀ i, i < 5 → ∃ c, (∀ q, (fX10_namesIn μc 12 (20 + nI i)).bind q = (q c : Option ((Int32 × Int32 × Int32) ⊕ Int32))) ∧ fX12_namesWith μm (nI i) = some c ∧ fX12_bits c = some (fJ6_bitCount_0f7a4 c) ∧ 0 ≤ (fJ6_bitCount_0f7a4 c).toInt := fun i hi => by
    refine ⟨nI (nb_sel (fun n => decide (μm.1 402 (12 + 2 * n) = 20 + nI i)) N), fun q => ?_, q_namesWith _ hN (by omega), ?_⟩
    · rw [q_namesIn _ hNc (by omega), nb_sel_eq (q := fun n => decide (μm.1 402 (12 + 2 * n) = 20 + nI i)) (p := fun n => decide (μc.1 (12 + 1) n = 20 + nI i)) (fun j hj => by rw [show 12 + 1 = 13 from rfl, v1_place hV.1 (by omega)])]
      rfl
    · have := nb_sel_lt (fun n => decide (μm.1 402 (12 + 2 * n) = 20 + nI i)) N
      have h2 : 2 ^ N ≤ 2 ^ 6 := Nat.pow_le_pow_right (by decide) (by omega)
      exact q_bits _ (by omega)
  unfold fX11_richest fX12_richest
  have step : ∀ (s : Int32 × Int32 × Int32) (t : Int32 × Int32), (∃ i, i ≤ F ∧ s.2.2 = nI i ∧ t = (s.1, nI i) ∧ ((s.1 = -1 ∧ s.2.1 = 0) ∨ ∃ b c, b < F ∧ s.1 = nI b ∧ fX12_namesWith μm (nI b) = some c ∧ fX12_bits c = some s.2.1)) → (∃ s' t', lbX11_richest_6 μc s.1 s.2.1 s.2.2 = some (.inl s') ∧ lbX12_richest_4 μm t.1 t.2 = some (.inl t') ∧ (∃ i, i ≤ F ∧ s'.2.2 = nI i ∧ t' = (s'.1, nI i) ∧ ((s'.1 = -1 ∧ s'.2.1 = 0) ∨ ∃ b c, b < F ∧ s'.1 = nI b ∧ fX12_namesWith μm (nI b) = some c ∧ fX12_bits c = some s'.2.1)) ∧ F - s'.2.2.toNatClampNeg < F - s.2.2.toNatClampNeg) ∨ (∃ r r', lbX11_richest_6 μc s.1 s.2.1 s.2.2 = some (.inr r) ∧ lbX12_richest_4 μm t.1 t.2 = some (.inr r') ∧ r = r') := by
    rintro ⟨b, m, j⟩ t ⟨i, hi, hj, rfl, hinv⟩
    dsimp only at hj hinv ⊢
    subst hj
    unfold lbX11_richest_6 lbX12_richest_4 jjX12_richest_39_4
    rw [hFc, hF]
    by_cases hiN : i = F
    · subst hiN
      right
      have hle : nI i ≤ nI i := by rw [le_n (by omega) (by omega)]; omega
      simp only [if_pos hle]
      exact ⟨b, b, rfl, rfl, rfl⟩
    left
    have hle : ¬ nI F ≤ nI i := by rw [le_n (by omega) (by omega)]; omega
    obtain ⟨c, k1, k2, k3, k4⟩ := hM i (by omega)
    simp (disch := omega) only [if_neg hle, cl_n, add_l 1, go_let]
    rw [k1, k2, Option.bind_some, k3, Option.bind_some]
    have fin : ∀ (s' : Int32 × Int32 × Int32), s'.2.2 = nI (i + 1) → F - s'.2.2.toNatClampNeg < F - i := fun s' hs => by rw [hs, cl_n (by omega)]; omega
    rcases hinv with ⟨rfl, rfl⟩ | ⟨b', c', hb', rfl, e1, e2⟩
    · simp only [if_true]
      by_cases hc : fJ6_bitCount_0f7a4 c ≤ 0
      · simp only [if_pos hc]
        exact ⟨_, _, rfl, rfl, ⟨i + 1, by omega, rfl, rfl, Or.inl ⟨rfl, rfl⟩⟩, fin _ rfl⟩
      · simp only [if_neg hc]
        exact ⟨_, _, rfl, rfl, ⟨i + 1, by omega, rfl, rfl, Or.inr ⟨i, c, by omega, rfl, k2, k3⟩⟩, fin _ rfl⟩
    · have hne : ¬ nI b' = -1 := by rw [neg1_ne (by omega)]; exact id
      simp only [if_neg hne]
      rw [e1, Option.bind_some, e2, Option.bind_some]
      by_cases hc : fJ6_bitCount_0f7a4 c ≤ m
      · simp only [if_pos hc]
        exact ⟨_, _, rfl, rfl, ⟨i + 1, by omega, rfl, rfl, Or.inr ⟨b', c', hb', rfl, e1, e2⟩⟩, fin _ rfl⟩
      · simp only [if_neg hc]
        exact ⟨_, _, rfl, rfl, ⟨i + 1, by omega, rfl, rfl, Or.inr ⟨i, c, by omega, rfl, k2, k3⟩⟩, fin _ rfl⟩
  obtain ⟨r, r', h1, h2, h3⟩ := lp_two (f := fun s : Int32 × Int32 × Int32 => lbX11_richest_6 μc s.1 s.2.1 s.2.2) (g := fun s : Int32 × Int32 => lbX12_richest_4 μm s.1 s.2) _ (fun s => F - s.2.2.toNatClampNeg) (fun r r' => r = r') step go_fuel go_fuel (-1, 0, 0) (-1, 0) ⟨0, by omega, rfl, rfl, Or.inl ⟨rfl, rfl⟩⟩ (by unfold go_fuel; omega) (by unfold go_fuel; omega)
  rw [h1, h2, h3]
  exact ⟨r', rfl, rfl⟩
/-! what is left of SOUNDS -/
theorem c_of (n w : Int32) {μc μm : PM} (h : RR μc μm) : ∃ r, fX11_of μc n w = some r ∧ fX12_of μm n w = some r := by
  have hV := h.1
  have hO := hV.2.2.2.1
  have hb := ob_names hO
  unfold fX11_of fX12_of
  rw [q_nameC hV.1 hO, q_nameM hO, q_ite, q_ite]
  by_cases hx : 0 ≤ n.toInt ∧ n.toInt < (μm.1 402 0).toInt
  case neg =>
    rw [if_neg hx, if_neg hx]
    exact ⟨_, rfl, rfl⟩
  simp only [if_pos hx]
  have hsd := hV.2.2.2.2.2.1
  obtain ⟨k, rfl, hk, hk2⟩ := nz_of (v := n) (k := 6) hx.1 (by omega)
  by_cases w0 : w = 0
  · simp (disch := omega) only [if_pos w0, l_add 30, chk_n, cl_n]
    exact ⟨_, rfl, by rw [v1_sounds hV.1 (by omega)]⟩
  by_cases w1 : w = 1
  · simp (disch := omega) only [if_neg w0, if_pos w1, l_add 36, chk_n, cl_n]
    exact ⟨_, rfl, by rw [v1_layer hV.1 (by omega)]⟩
  by_cases w2 : w = 2
  · unfold fX12_get
    simp (disch := omega) only [if_neg w0, if_neg w1, if_pos w2, l_mul 2, l_add 12, add_l 1, chk_n, cl_n, Option.bind_some]
    exact ⟨_, rfl, by rw [v1_size hV.1 (by omega), show 12 + 2 * k + 1 = 13 + 2 * k by omega]⟩
  by_cases w3 : w = 3
  · unfold fX12_get
    simp (disch := omega) only [if_neg w0, if_neg w1, if_neg w2, if_pos w3, l_mul 2, l_add 12, add_l 0, Nat.add_zero, chk_n, cl_n, Option.bind_some]
    exact ⟨_, rfl, by rw [v1_place hV.1 (by omega)]⟩
  by_cases w4 : w = 4
  case neg =>
    simp only [if_neg w0, if_neg w1, if_neg w2, if_neg w3, if_neg w4]
    exact ⟨_, rfl, rfl⟩
  unfold fX12_leftOf fX11_leftOf
  simp (disch := omega) only [if_neg w0, if_neg w1, if_neg w2, if_neg w3, if_pos w4, l_add 30, chk_n, cl_n, go_let]
  rw [v1_sounds hV.1 (by omega), v1_size hV.1 (by omega)]
  obtain ⟨l, hl1, hl5, s1, s2, s3, -⟩ := q_len (hsd k (by omega))
  rw [s1, s3, Option.bind_some, Option.bind_some]
  obtain ⟨z, hz, hz5, hz2⟩ := nz_of (v := μm.1 402 (13 + 2 * k)) (k := 6) (ob_size hO (by omega)).1 (by have := (ob_size hO (n := k) (by omega)).2; omega)
  rw [hz]
  have step : ∀ (s t : Int32 × Int32), (s.1 = t.1 ∧ ∃ i, i ≤ l ∧ t.2 = nI i ∧ s.2.toInt = (i : Int) - z) → (∃ s' t', lbX11_leftOf_9 (μm.1 402 (30 + k)) (nI z) s.1 s.2 = some (.inl s') ∧ lbX12_leftOf_15 μm (nI k) t.1 t.2 = some (.inl t') ∧ (s'.1 = t'.1 ∧ ∃ i, i ≤ l ∧ t'.2 = nI i ∧ s'.2.toInt = (i : Int) - z) ∧ s'.2.toInt.toNat < s.2.toInt.toNat) ∨ (∃ r r', lbX11_leftOf_9 (μm.1 402 (30 + k)) (nI z) s.1 s.2 = some (.inr r) ∧ lbX12_leftOf_15 μm (nI k) t.1 t.2 = some (.inr r') ∧ r = r') := by
    rintro ⟨v, x⟩ ⟨v', y⟩ ⟨e, i, hi, hy, hx⟩
    dsimp only at e hy hx ⊢
    subst e hy
    unfold lbX11_leftOf_9 lbX12_leftOf_15 fX12_get
    simp (disch := omega) only [l_mul 2, l_add 12, add_l 1, chk_n, cl_n, Option.bind_some]
    rw [show 12 + 2 * k + 1 = 13 + 2 * k by omega, hz]
    by_cases hc : i ≤ z
    · right
      rw [if_pos (by rw [i_le, hx]; show _ ≤ (0 : Int); omega), if_pos (by rw [le_n (by omega) (by omega)]; exact hc)]
      exact ⟨_, _, rfl, rfl, rfl⟩
    · left
      rw [if_neg (by rw [i_le, hx]; show ¬ _ ≤ (0 : Int); omega), if_neg (by rw [le_n (by omega) (by omega)]; exact hc)]
      have e1 : (x + -1).toInt = x.toInt - 1 := by
        rw [ti_add (by rw [show (-1 : Int32).toInt = -1 from rfl]; omega) (by rw [show (-1 : Int32).toInt = -1 from rfl]; omega), show (-1 : Int32).toInt = -1 from rfl]
        omega
      have e2 : nI i + -1 = nI (i - 1) := by
        obtain ⟨q, rfl⟩ : ∃ q, i = q + 1 := ⟨i - 1, by omega⟩
        exact pk_m1 q
      rw [e2]
      refine ⟨_, _, rfl, rfl, ⟨rfl, i - 1, by omega, rfl, ?_⟩, ?_⟩
      · dsimp only
        rw [e1, hx]; omega
      · dsimp only
        rw [e1, hx]; omega
  have hsub : (nI l - nI z).toInt = (l : Int) - z := pk_sub_toInt (by omega) (by omega)
  obtain ⟨r, r', h1, h2, h3⟩ := lp_two (f := fun s : Int32 × Int32 => lbX11_leftOf_9 (μm.1 402 (30 + k)) (nI z) s.1 s.2) (g := fun s : Int32 × Int32 => lbX12_leftOf_15 μm (nI k) s.1 s.2) _ (fun s => s.2.toInt.toNat) (fun r r' => r = r') step go_fuel go_fuel (μm.1 402 (30 + k), nI l - nI z) (μm.1 402 (30 + k), nI l) ⟨rfl, l, by omega, rfl, hsub⟩ (by dsimp only; rw [hsub]; unfold go_fuel; omega) (by dsimp only; rw [hsub]; unfold go_fuel; omega)
  rw [h1, h2, h3]
  exact ⟨r', rfl, rfl⟩
