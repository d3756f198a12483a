/-! ===== calls that ask alone ===== -/
theorem nI_nlt0 {k : Nat} (hk : k < 2147483648) : ¬ nI k < 0 := fun q => by
  have := (lt_l (n := 0) hk (by omega)).mp q
  omega
theorem c_is (w : Int32) {μc μm : PM} (h : RR μc μm) : fX12_is μm w = some (fX11_is μc w) := by
  have hV := h.1
  unfold fX11_is fX12_is
  rw [q_isIn, q_ite, v1_hour hV.1, v1_x hV.1, v1_warm hV.1, v1_stones hV.1, v1_eddies hV.1]
  simp only [show (0 : Int32).toInt = 0 from rfl, show (3 : Int32).toInt = 3 from rfl]
  by_cases hw : 0 ≤ w.toInt ∧ w.toInt ≤ 3
  · rw [if_pos hw]
    obtain ⟨n, rfl, hn, -⟩ := nz_of (v := w) (k := 4) hw.1 (by omega)
    have : n = 0 ∨ n = 1 ∨ n = 2 ∨ n = 3 := by omega
    rcases this with rfl | rfl | rfl | rfl <;> rfl
  · rw [if_neg hw]
    have ne : ∀ k : Int32, 0 ≤ k.toInt ∧ k.toInt ≤ 3 → w ≠ k := fun k hk q => hw (q ▸ hk)
    rw [if_neg (ne 0 (by decide)), if_neg (ne 1 (by decide)), if_neg (ne 2 (by decide)), if_neg (ne 3 (by decide))]
    split <;> rfl
theorem c_about (w : Int32) {μc μm : PM} (h : RR μc μm) : fX12_about μm w = some (fX11_about μc w) := by
  have hV := h.1
  have ht := h.2.2.2.1.1
  unfold fX11_about fX12_about
  rw [q_isIn, q_ite, v1_names hV.1, v1_families hV.1, v1_texts hV.1, v1_ruling hV.1, v1_count hV.1, v1_halfCount hV.1, v1_saidCount hV.1, ht]
  simp only [show (0 : Int32).toInt = 0 from rfl, show (6 : Int32).toInt = 6 from rfl]
  by_cases hw : 0 ≤ w.toInt ∧ w.toInt ≤ 6
  · rw [if_pos hw]
    obtain ⟨n, rfl, hn, -⟩ := nz_of (v := w) (k := 7) hw.1 (by omega)
    have : n = 0 ∨ n = 1 ∨ n = 2 ∨ n = 3 ∨ n = 4 ∨ n = 5 ∨ n = 6 := by omega
    rcases this with rfl | rfl | rfl | rfl | rfl | rfl | rfl <;> rfl
  · rw [if_neg hw]
    have ne : ∀ k : Int32, 0 ≤ k.toInt ∧ k.toInt ≤ 6 → w ≠ k := fun k hk q => hw (q ▸ hk)
    rw [if_neg (ne 0 (by decide)), if_neg (ne 1 (by decide)), if_neg (ne 2 (by decide)), if_neg (ne 3 (by decide)), if_neg (ne 4 (by decide)), if_neg (ne 5 (by decide)), if_neg (ne 6 (by decide))]
    split <;> rfl
/-- a line of the book: its four parts -/
theorem q_line {x y : Int32} (h : BKr x y) : x / 1000 = y / 180 ∧ jrem (x / 100) 10 = jrem (y / 30) 6 ∧ jrem (x / 10) 10 = jrem (y / 10) 3 ∧ jrem x 10 = jrem y 10 := by
  obtain ⟨h, n, w, p, h1, h2, h3, h4, rfl, rfl⟩ := h
  have hx : h * 1000 + n * 100 + w * 10 + p < 2147483648 := by omega
  have hy : ((h * 6 + n) * 3 + w) * 10 + p < 2147483648 := by omega
  rw [div_l (n := 1000) hx (by omega), div_l (n := 180) hy (by omega), div_l (n := 100) hx (by omega), div_l (n := 30) hy (by omega), div_l (n := 10) hx (by omega), div_l (n := 10) hy (by omega), rem_l (n := 10) (by omega) (by omega), rem_l (n := 6) (by omega) (by omega), rem_l (n := 10) (by omega) (by omega), rem_l (n := 3) (by omega) (by omega), rem_l (n := 10) (by omega) (by omega), rem_l (n := 10) (by omega) (by omega)]
  refine ⟨?_, ?_, ?_, ?_⟩ <;> (congr 1; omega)
theorem c_book (i w : Int32) {μc μm : PM} (h : RR μc μm) : ∃ r, fX11_book μc i w = some r ∧ fX12_book μm i w = some r := by
  have hV := h.1
  have hO := hV.2.2.2.1
  unfold fX11_book fX12_book
  have hw := ob_written hO
  rw [q_isIn, q_isIn, q_ite, q_ite, v1_written hV.1, ti_sub (by rw [show (1 : Int32).toInt = 1 from rfl]; omega) (by rw [show (1 : Int32).toInt = 1 from rfl]; omega)]
  simp only [i_lt, i_le, show (1 : Int32).toInt = 1 from rfl, show (0 : Int32).toInt = 0 from rfl, show (3 : Int32).toInt = 3 from rfl, show (30 : Int32).toInt = 30 from rfl]
  by_cases hi1 : i = -1
  · rw [if_pos hi1, if_pos hi1]
    exact ⟨_, rfl, rfl⟩
  rw [if_neg hi1, if_neg hi1]
  by_cases hi : 0 ≤ i.toInt ∧ i.toInt < (μm.1 402 11).toInt
  · rw [if_neg (by omega), if_neg (by omega), if_pos (by omega), if_pos (by omega)]
    obtain ⟨n, rfl, hn, hn2⟩ := nz_of (v := i) (k := 30) hi.1 (by omega)
    unfold fX12_entry
    simp (disch := omega) only [chk_n, cl_n, go_let, l_add 1762]
    obtain ⟨e1, e2, e3, e4⟩ := q_line (hV.2.1 n (by omega))
    rw [show 1 + 15 = 16 from rfl] at e1 e2 e3 e4
    by_cases hw0 : 0 ≤ w.toInt ∧ w.toInt ≤ 3
    · rw [if_pos hw0]
      obtain ⟨k, rfl, hk, -⟩ := nz_of (v := w) (k := 4) hw0.1 (by omega)
      have : k = 0 ∨ k = 1 ∨ k = 2 ∨ k = 3 := by omega
      rcases this with rfl | rfl | rfl | rfl
      · exact ⟨_, rfl, by rw [e1]; rfl⟩
      · exact ⟨_, rfl, by rw [e2]; rfl⟩
      · exact ⟨_, rfl, by rw [e3]; rfl⟩
      · exact ⟨_, rfl, by rw [e4]; rfl⟩
    · rw [if_neg hw0]
      have ne : ∀ k : Int32, 0 ≤ k.toInt ∧ k.toInt ≤ 3 → w ≠ k := fun k hk q => hw0 (q ▸ hk)
      rw [if_neg (ne 0 (by decide)), if_neg (ne 1 (by decide)), if_neg (ne 2 (by decide)), if_neg (ne 3 (by decide))]
      exact ⟨_, rfl, rfl⟩
  · rw [if_neg (c := 0 ≤ i.toInt ∧ i.toInt ≤ (μm.1 402 11).toInt - 1) (by omega)]
    refine ⟨-2, ?_, rfl⟩
    by_cases h0 : i.toInt < 0
    · rw [if_pos h0]
    · rw [if_neg h0, if_pos (by omega)]
/-! sets of those of whom p holds -/
def nb_sel (p : Nat → Bool) : Nat → Nat
  | 0 => 0
  | n + 1 => if p n = true then nb_sel p n ||| 2 ^ n else nb_sel p n
theorem nb_sel_lt (p : Nat → Bool) : ∀ n, nb_sel p n < 2 ^ n
  | 0 => by simp [nb_sel]
  | n + 1 => by
    have h := nb_sel_lt p n
    have h2 : 2 ^ n < 2 ^ (n + 1) := nb_pow (by omega)
    unfold nb_sel
    split
    · exact nb_or_lt (by omega) (by omega)
    · omega
theorem nb_sel_eq {p q : Nat → Bool} : ∀ {n : Nat}, (∀ i, i < n → p i = q i) → nb_sel p n = nb_sel q n := by
  intro n
  induction n with
  | zero => intro _; rfl
  | succ n ih =>
    intro h
    unfold nb_sel
    rw [h n (by omega), ih (fun i hi => h i (by omega))]
theorem q_namesIn {μ : PM} {o N : Nat} (w : Int32) (hN : μ.1 o 5 = nI N) (h6 : N ≤ 6) : fX10_namesIn μ o w = some (nI (nb_sel (fun n => decide (μ.1 (o + 1) n = w)) N)) := by
  unfold fX10_namesIn
  have := lp_cnt (f := fun s : Int32 × Int32 => lbX10_namesIn_4 μ o w s.1 s.2) (fun i => (nI (nb_sel (fun n => decide (μ.1 (o + 1) n = w)) i), nI i)) 0 N (nI (nb_sel (fun n => decide (μ.1 (o + 1) n = w)) N)) (fun i _ hi => ?_) ?_ go_fuel 0 (by omega) (by omega) (by unfold go_fuel; omega)
  · have e : ((0 : Int32), (0 : Int32)) = (fun i => (nI (nb_sel (fun n => decide (μ.1 (o + 1) n = w)) i), nI i)) 0 := rfl
    rw [e, this]
    rfl
  · dsimp only
    unfold lbX10_namesIn_4
    rw [hN, if_neg (by rw [le_n (by omega) (by omega)]; omega), if_neg (by rw [l_le (n := 6) (by omega) (by omega)]; omega)]
    simp (disch := omega) only [chk_n, cl_n, go_let, add_l 1, nb_set]
    conv => rhs; unfold nb_sel
    by_cases hp : μ.1 (o + 1) i = w
    · rw [if_pos hp, if_pos (decide_eq_true hp)]
    · rw [if_neg hp, if_neg (by simp [hp])]
  · dsimp only
    unfold lbX10_namesIn_4
    rw [hN, if_pos (by rw [le_n (by omega) (by omega)]; omega)]
theorem q_namesWith {μ : PM} {N : Nat} (w : Int32) (hN : μ.1 402 0 = nI N) (h6 : N ≤ 6) : fX12_namesWith μ w = some (nI (nb_sel (fun n => decide (μ.1 402 (12 + 2 * n) = 20 + w)) N)) := by
  unfold fX12_namesWith
  have := lp_cnt (f := fun s : Int32 × Int32 => lbX12_namesWith_4 μ w s.1 s.2) (fun i => (nI (nb_sel (fun n => decide (μ.1 402 (12 + 2 * n) = 20 + w)) i), nI i)) 0 N (nI (nb_sel (fun n => decide (μ.1 402 (12 + 2 * n) = 20 + w)) N)) (fun i _ hi => ?_) ?_ go_fuel 0 (by omega) (by omega) (by unfold go_fuel; omega)
  · have e : ((0 : Int32), (0 : Int32)) = (fun i => (nI (nb_sel (fun n => decide (μ.1 402 (12 + 2 * n) = 20 + w)) i), nI i)) 0 := rfl
    rw [e, this]
    rfl
  · dsimp only
    unfold lbX12_namesWith_4 fX12_get jjX12_namesWith_35_4
    rw [hN, if_neg (by rw [le_n (by omega) (by omega)]; omega)]
    simp (disch := omega) only [l_mul 2, l_add 12, add_l 0, Nat.add_zero, chk_n, cl_n, Option.bind_some, add_l 1, nb_set]
    conv => rhs; unfold nb_sel
    by_cases hp : μ.1 402 (12 + 2 * i) = 20 + w
    · rw [if_pos hp, if_pos (decide_eq_true hp)]
    · rw [if_neg hp, if_neg (by simp [hp]), show (0 : Int32) = nI 0 from rfl, nx_or, Nat.or_zero]
  · dsimp only
    unfold lbX12_namesWith_4
    rw [hN, if_pos (by rw [le_n (by omega) (by omega)]; omega)]
theorem q_iceM {μ : PM} (hb : OB (μ.1 402)) (v : Int32) : fX12_isIce μ v = some (if (0 ≤ v.toInt ∧ v.toInt < (μ.1 402 0).toInt) ∧ μ.1 402 (12 + 2 * v.toNatClampNeg) = -1 then 1 else 0) := by
  unfold fX12_isIce fX12_get
  rw [q_nameM hb, q_ite]
  have := ob_names hb
  by_cases h : 0 ≤ v.toInt ∧ v.toInt < (μ.1 402 0).toInt
  · rw [if_pos h]
    obtain ⟨n, rfl, hn, -⟩ := nz_of (v := v) (k := 6) h.1 (by omega)
    simp (disch := omega) only [l_mul 2, l_add 12, add_l 0, Nat.add_zero, chk_n, cl_n, Option.bind_some]
    by_cases hp : μ.1 402 (12 + 2 * n) = -1
    · rw [if_pos hp, if_pos ⟨h, hp⟩]
    · rw [if_neg hp, if_neg (fun q => hp q.2)]
  · rw [if_neg h, if_neg (fun q => h q.1)]
theorem c_frozen {μc μm : PM} (h : RR μc μm) : ∃ r, fX11_frozen μc = some r ∧ fX12_frozen μm = some r := by
  have hV := h.1
  have hO := hV.2.2.2.1
  obtain ⟨N, hN, hN6, hN2⟩ := nz_of (v := μm.1 402 0) (k := 7) (ob_names hO).1 (by have := (ob_names hO).2; omega)
  have hNc : μc.1 12 5 = nI N := by rw [v1_names hV.1]; exact hN
  refine ⟨nI (nb_sel (fun n => decide (μm.1 402 (12 + 2 * n) = -1)) N), ?_, ?_⟩
  · unfold fX11_frozen
    rw [q_namesIn _ hNc (by omega), nb_sel_eq (q := fun n => decide (μm.1 402 (12 + 2 * n) = -1)) (fun i hi => by rw [show 12 + 1 = 13 from rfl, v1_place hV.1 (by omega)])]
    rfl
  · unfold fX12_frozen
    have := lp_cnt (f := fun s : Int32 × Int32 => lbX12_frozen_4 μm s.1 s.2) (fun i => (nI (nb_sel (fun n => decide (μm.1 402 (12 + 2 * n) = -1)) i), nI i)) 0 N (nI (nb_sel (fun n => decide (μm.1 402 (12 + 2 * n) = -1)) N)) (fun i _ hi => ?_) ?_ go_fuel 0 (by omega) (by omega) (by unfold go_fuel; omega)
    · have e : ((0 : Int32), (0 : Int32)) = (fun i => (nI (nb_sel (fun n => decide (μm.1 402 (12 + 2 * n) = -1)) i), nI i)) 0 := rfl
      rw [e, this]
      rfl
    · dsimp only
      unfold lbX12_frozen_4 jjX12_frozen_30_4
      rw [hN, if_neg (by rw [le_n (by omega) (by omega)]; omega), q_iceM hO, Option.bind_some, q_ite, cl_n (by omega), ti_n (by omega)]
      simp (disch := omega) only [add_l 1, nb_set]
      conv => rhs; unfold nb_sel
      by_cases hp : μm.1 402 (12 + 2 * i) = -1
      · rw [if_pos ⟨by omega, hp⟩, if_pos (decide_eq_true hp)]
      · rw [if_neg (fun q => hp q.2), if_neg (by simp [hp]), show (0 : Int32) = nI 0 from rfl, nx_or, Nat.or_zero]
    · dsimp only
      unfold lbX12_frozen_4
      rw [hN, if_pos (by rw [le_n (by omega) (by omega)]; omega)]
theorem c_ofFamily (f w : Int32) {μc μm : PM} (h : RR μc μm) : ∃ r, fX11_ofFamily μc f w = some r ∧ fX12_ofFamily μm f w = some r := by
  have hV := h.1
  have hO := hV.2.2.2.1
  have hfb := ob_families hO
  obtain ⟨N, hN, hN6, hN2⟩ := nz_of (v := μm.1 402 0) (k := 7) (ob_names hO).1 (by have := (ob_names hO).2; omega)
  have hNc : μc.1 12 5 = nI N := by rw [v1_names hV.1]; exact hN
  unfold fX11_ofFamily fX12_ofFamily
  rw [q_famC hV.1 hO, q_famM hO, q_ite, q_ite]
  by_cases hf : 0 ≤ f.toInt ∧ f.toInt < (μm.1 402 1).toInt
  · rw [if_pos hf, if_pos hf]
    obtain ⟨F, rfl, hF, -⟩ := nz_of (v := f) (k := 5) hf.1 (by omega)
    by_cases w0 : w = 0
    · rw [if_pos w0, if_pos w0]
      simp (disch := omega) only [l_add 42, chk_n, cl_n]
      exact ⟨_, rfl, by rw [v1_net hV.1 (by omega)]⟩
    rw [if_neg w0, if_neg w0]
    by_cases w1 : w = 1
    · rw [if_pos w1, if_pos w1]
      simp (disch := omega) only [l_add 24, chk_n, cl_n]
      exact ⟨_, rfl, by rw [v1_stand hV.1 (by omega)]⟩
    rw [if_neg w1, if_neg w1]
    by_cases w2 : w = 2
    · rw [if_pos w2, if_pos w2, q_namesIn _ hNc (by omega), q_namesWith _ hN (by omega)]
      refine ⟨_, rfl, ?_⟩
      rw [nb_sel_eq (q := fun n => decide (μm.1 402 (12 + 2 * n) = 20 + nI F)) (p := fun n => decide (μc.1 (12 + 1) n = 20 + nI F)) (fun i hi => by rw [show 12 + 1 = 13 from rfl, v1_place hV.1 (by omega)])]
      rfl
    · rw [if_neg w2, if_neg w2]
      exact ⟨_, rfl, rfl⟩
  · rw [if_neg hf, if_neg hf]
    exact ⟨_, rfl, rfl⟩
theorem c_layers (s : Int32) {μc μm : PM} (h : RR μc μm) : ∃ r, fX11_layers μc s = some r ∧ fX12_layers μm s = some r := by
  have hV := h.1
  have hO := hV.2.2.2.1
  obtain ⟨N, hN, hN6, hN2⟩ := nz_of (v := μm.1 402 0) (k := 7) (ob_names hO).1 (by have := (ob_names hO).2; omega)
  have hNc : μc.1 12 5 = nI N := by rw [v1_names hV.1]; exact hN
  have hp : 2 ^ N ≤ 64 := by
    have : 2 ^ N ≤ 2 ^ 6 := Nat.pow_le_pow_right (by decide) (by omega)
    omega
  have hp1 : 1 ≤ 2 ^ N := Nat.one_le_two_pow
  unfold fX11_layers fX12_layers
  rw [hNc, hN, nb_shl N (by omega), q_isIn, q_ite, sub_l (n := 1) hp1, ti_n (by omega)]
  simp only [i_lt, show (0 : Int32).toInt = 0 from rfl]
  rw [ti_n (by omega)]
  by_cases hs : 0 ≤ s.toInt ∧ s.toInt < ((2 ^ N : Nat) : Int)
  · rw [if_neg (by omega), if_pos (by omega), if_pos (by omega)]
    have step : ∀ (x y : Int32 × Int32), (x = y ∧ ∃ i, i ≤ N ∧ x.2 = nI i) → (∃ x' y', lbX11_layers_23 μc s x.1 x.2 = some (.inl x') ∧ lbX12_layers_24 μm s y.1 y.2 = some (.inl y') ∧ (x' = y' ∧ ∃ i, i ≤ N ∧ x'.2 = nI i) ∧ N - x'.2.toNatClampNeg < N - x.2.toNatClampNeg) ∨ (∃ r r', lbX11_layers_23 μc s x.1 x.2 = some (.inr r) ∧ lbX12_layers_24 μm s y.1 y.2 = some (.inr r') ∧ r = r') := by
      rintro x y ⟨rfl, i, hi, hx⟩
      obtain ⟨b, k⟩ := x
      dsimp only at hx ⊢
      subst hx
      unfold lbX11_layers_23 lbX12_layers_24 jjX12_layers_58_24
      rw [hNc, hN, bitE]
      by_cases hiN : i = N
      · subst hiN
        right
        rw [if_pos (by rw [le_n (by omega) (by omega)]; omega), if_pos (by rw [le_n (by omega) (by omega)]; omega)]
        exact ⟨b, b, rfl, rfl, rfl⟩
      · left
        have hle : ¬ nI N ≤ nI i := by rw [le_n (by omega) (by omega)]; omega
        have h6 : ¬ (6 : Int32) ≤ nI i := fun q => by have := (l_le (n := 6) (by omega) (by omega)).mp q; omega
        simp (disch := omega) only [if_neg hle, if_neg h6, l_add 36, chk_n, cl_n, go_let, add_l 1]
        rw [v1_layer hV.1 (by omega)]
        by_cases hb : fX12_has s (nI i) = 0
        · rw [if_pos hb, if_pos hb]
          refine ⟨_, _, rfl, rfl, ⟨?_, i + 1, by omega, rfl⟩, ?_⟩
          · have : b ||| 0 = b := by
              apply Int32.toBitVec_inj.1
              simp
            rw [this]
          · dsimp only
            rw [cl_n (by omega)]
            omega
        · rw [if_neg hb, if_neg hb]
          refine ⟨_, _, rfl, rfl, ⟨rfl, i + 1, by omega, rfl⟩, ?_⟩
          dsimp only
          rw [cl_n (by omega)]
          omega
    obtain ⟨r, r', h1, h2, h3⟩ := lp_two (f := fun s' : Int32 × Int32 => lbX11_layers_23 μc s s'.1 s'.2) (g := fun s' : Int32 × Int32 => lbX12_layers_24 μm s s'.1 s'.2) (fun x y => x = y ∧ ∃ i, i ≤ N ∧ x.2 = nI i) (fun x => N - x.2.toNatClampNeg) (fun r r' => r = r') step go_fuel go_fuel (0, 0) (0, 0) ⟨rfl, 0, by omega, rfl⟩ (by unfold go_fuel; omega) (by unfold go_fuel; omega)
    rw [h1, h2, h3]
    exact ⟨r', rfl, rfl⟩
  · rw [if_neg (c := 0 ≤ s.toInt ∧ s.toInt ≤ _) (by omega)]
    refine ⟨-1, ?_, rfl⟩
    by_cases h0 : s.toInt < 0
    · rw [if_pos h0]
    · rw [if_neg h0, if_neg (by omega)]
