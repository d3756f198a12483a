/-! ===== a Water of the class beside the reference's row, while HOURS pass; laws as both ask them ===== -/
def PO (o : Nat) : Prop := o = 12 ∨ o = 337
def PH (bk xk : Bool) (o : Nat) (μc μm : PM) : Prop :=
  (∀ j, j < 24 → j ≠ 6 → (j = 3 → xk = true) → μc.1 (o + (vz_wl j).1) (vz_wl j).2 = vz_cur (μm.1 402) j) ∧
  (0 ≤ (μc.1 o 4).toInt ∧ (μc.1 o 4).toInt ≤ 30) ∧
  (bk = true → μc.1 o 4 = μm.1 402 11 ∧ ∀ k, k < 30 → BKr (μc.1 (o + 4) k) (μm.1 402 (1762 + k))) ∧
  (∀ k, k < 142 → (2 ≤ k ∧ k < 7) ∨ 29 ≤ k → μc.1 (1 + (vz_loc k).1) (vz_loc k).2 = μm.1 402 k) ∧
  OA (μm.1 402) ∧ μm.1 401 23 = (if bk = true then 1 else 0) ∧
  ∀ t : Nat, (t : Int) < (μm.1 402 2).toInt → t < 4 → TXR μc μm t
theorem vw_place : ∀ n, n < 6 → vz_wl (7 + 2 * n) = (1, n) := by decide +kernel
theorem vw_size : ∀ n, n < 6 → vz_wl (8 + 2 * n) = (2, n) := by decide +kernel
theorem vw_stand : ∀ n, n < 5 → vz_wl (19 + n) = (3, n) := by decide +kernel
theorem vw_inj : ∀ j, j < 24 → ∀ k, k < 24 → vz_wl j = vz_wl k → j = k := by decide +kernel
theorem vw_le : ∀ j, j < 24 → (vz_wl j).1 ≤ 3 ∧ ((vz_wl j).1 = 0 → (vz_wl j).2 ≤ 10) := by decide +kernel
theorem vs_le : ∀ k, k < 142 → (2 ≤ k ∧ k < 7) ∨ 29 ≤ k → (vz_loc k).1 ≤ 10 ∨ (vz_loc k).1 = 16 := by decide +kernel
section PHs
variable {bk xk : Bool} {o : Nat} {μc μm : PM}
theorem ph_names (h : PH bk xk o μc μm) : μc.1 o 5 = μm.1 402 0 := h.1 0 (by decide) (by decide) (fun q => absurd q (by decide))
theorem ph_fams (h : PH bk xk o μc μm) : μc.1 o 6 = μm.1 402 1 := h.1 1 (by decide) (by decide) (fun q => absurd q (by decide))
theorem ph_hour (h : PH bk xk o μc μm) : μc.1 o 9 = μm.1 402 7 := h.1 2 (by decide) (by decide) (fun q => absurd q (by decide))
theorem ph_x (h : PH bk true o μc μm) : μc.1 o 10 = μm.1 402 8 := h.1 3 (by decide) (by decide) (fun _ => rfl)
theorem ph_warm (h : PH bk xk o μc μm) : μc.1 o 8 = μm.1 402 9 := h.1 4 (by decide) (by decide) (fun q => absurd q (by decide))
theorem ph_stones (h : PH bk xk o μc μm) : μc.1 o 7 = μm.1 402 10 := h.1 5 (by decide) (by decide) (fun q => absurd q (by decide))
theorem ph_place (h : PH bk xk o μc μm) {n : Nat} (hn : n < 6) : μc.1 (o + 1) n = μm.1 402 (12 + 2 * n) := by
  have := h.1 (7 + 2 * n) (by omega) (by omega) (fun q => by omega)
  rw [vw_place n hn, vz_cur_lo (by omega), if_neg (by omega), show 5 + (7 + 2 * n) = 12 + 2 * n by omega] at this
  exact this
theorem ph_size (h : PH bk xk o μc μm) {n : Nat} (hn : n < 6) : μc.1 (o + 2) n = μm.1 402 (13 + 2 * n) := by
  have := h.1 (8 + 2 * n) (by omega) (by omega) (fun q => by omega)
  rw [vw_size n hn, vz_cur_lo (by omega), if_neg (by omega), show 5 + (8 + 2 * n) = 13 + 2 * n by omega] at this
  exact this
theorem ph_stand (h : PH bk xk o μc μm) {n : Nat} (hn : n < 5) : μc.1 (o + 3) n = μm.1 402 (24 + n) := by
  have := h.1 (19 + n) (by omega) (by omega) (fun q => by omega)
  rw [vw_stand n hn, vz_cur_lo (by omega), if_neg (by omega), show 5 + (19 + n) = 24 + n by omega] at this
  exact this
theorem ph_eddies (h : PH bk xk o μc μm) : μc.1 1 12 = μm.1 402 29 := h.2.2.2.1 29 (by decide) (by decide)
theorem ph_ruling (h : PH bk xk o μc μm) : μc.1 1 14 = μm.1 402 3 := h.2.2.2.1 3 (by decide) (by decide)
theorem ph_texts (h : PH bk xk o μc μm) : μc.1 1 13 = μm.1 402 2 := h.2.2.2.1 2 (by decide) (by decide)
theorem ph_sounds (h : PH bk xk o μc μm) {n : Nat} (hn : n < 6) : μc.1 2 n = μm.1 402 (30 + n) := by
  have := h.2.2.2.1 (30 + n) (by omega) (by omega)
  rw [vl_sounds n hn] at this
  exact this
theorem ph_layer (h : PH bk xk o μc μm) {n : Nat} (hn : n < 6) : μc.1 3 n = μm.1 402 (36 + n) := by
  have := h.2.2.2.1 (36 + n) (by omega) (by omega)
  rw [vl_layer n hn] at this
  exact this
theorem ph_net (h : PH bk xk o μc μm) {n : Nat} (hn : n < 5) : μc.1 4 n = μm.1 402 (42 + n) := by
  have := h.2.2.2.1 (42 + n) (by omega) (by omega)
  rw [vl_net n hn] at this
  exact this
theorem ph_ob (h : PH bk xk o μc μm) : OB (μm.1 402) := h.2.2.2.2.1.1
/-- cells that nothing hangs on are written -/
theorem PH_c {μc' : PM} (h : PH bk xk o μc μm) (ho : PO o) (hc : ∀ c, c < 372 → μc'.1 c = μc.1 c) : PH bk xk o μc' μm := by
  obtain ⟨h1, h2, h3, h4, h5, h6, h7⟩ := h
  have ho : o ≤ 337 := by rcases ho with rfl | rfl <;> omega
  refine ⟨fun j hj hj6 hx => ?_, ?_, fun hb => ?_, fun k hk hk2 => ?_, h5, h6, fun t ht h4 => TXR_eq (h7 t ht h4) (fun c _ _ => hc c (by omega)) rfl h4⟩
  · have := (vw_le j hj).1
    rw [hc _ (by omega)]
    exact h1 j hj hj6 hx
  · rw [hc _ (by omega)]
    exact h2
  · rw [hc _ (by omega), hc _ (by omega)]
    exact h3 hb
  · have := vs_le k hk hk2
    rw [hc _ (by omega)]
    exact h4 k hk hk2
theorem PH_m {μm' : PM} (h : PH bk xk o μc μm) (h1 : μm'.1 402 = μm.1 402) (h2 : μm'.1 404 = μm.1 404) (h3 : μm'.1 401 23 = μm.1 401 23) : PH bk xk o μc μm' := by
  unfold PH at h ⊢
  rw [h1, h3]
  exact ⟨h.1, h.2.1, h.2.2.1, h.2.2.2.1, h.2.2.2.2.1, h.2.2.2.2.2.1, fun t ht h4 => TXR_eq (h.2.2.2.2.2.2 t ht h4) (fun _ _ _ => rfl) h2 h4⟩
/-- a place of the Water and of the row is written -/
theorem PH_set (h : PH bk xk o μc μm) (ho : PO o) {j c i k : Nat} {v : Int32} (hj : j < 24) (hj6 : j ≠ 6) (hl : vz_wl j = (c, i)) (hk : k = if j < 2 then j else 5 + j) (ha : OA (upd (μm.1 402) k v)) : PH bk xk o (pm_wi μc (o + c) i v) (pm_wi μm 402 k v) := by
  obtain ⟨h1, h2, h3, h4, h5, h6, h7⟩ := h
  have hle := vw_le j hj
  rw [hl] at hle
  have hle : c ≤ 3 ∧ (c = 0 → i ≤ 10) := hle
  have hne : ¬ (c = 0 ∧ i = 4) := fun q => hj6 (vw_inj j hj 6 (by decide) (by rw [hl, q.1, q.2]; decide))
  have hk29 : k < 29 := by rw [hk]; split <;> omega
  have hk2 : ¬ (2 ≤ k ∧ k < 7) := by rw [hk]; split <;> omega
  have hk11 : k ≠ 11 := by rw [hk]; split <;> omega
  have hrow : (pm_wi μm 402 k v).1 402 = upd (μm.1 402) k v := wi_u μm 402 k v
  have hcell : ∀ x y, x < o ∨ o + 3 < x → (pm_wi μc (o + c) i v).1 x y = μc.1 x y := fun x y hx => by rw [wi_c (by omega)]
  have hst : ∀ k', k' < 142 → (2 ≤ k' ∧ k' < 7) ∨ 29 ≤ k' → (pm_wi μc (o + c) i v).1 (1 + (vz_loc k').1) (vz_loc k').2 = μc.1 (1 + (vz_loc k').1) (vz_loc k').2 := fun k' hk' hk3 => by
    have := vs_le k' hk' hk3
    refine hcell _ _ ?_
    rcases ho with rfl | rfl <;> omega
  refine ⟨fun j' hj' hj6' hx' => ?_, ?_, fun hb => ?_, fun k' hk' hk3 => ?_, ?_, ?_, fun t ht ht4 => ?_⟩
  · rw [hrow, wi_r, vz_cur_lo hj']
    by_cases e : j' = j
    · subst e
      rw [hl, ← hk, upd_e, if_pos ⟨rfl, rfl⟩]
    · rw [if_neg, upd_n, ← vz_cur_lo (a := μm.1 402) hj']
      · exact h1 j' hj' hj6' hx'
      · rw [hk]
        by_cases q1 : j' < 2 <;> by_cases q2 : j < 2 <;> simp only [q1, q2, if_true, if_false] <;> omega
      · rintro ⟨e1, e2⟩
        exact e (vw_inj j' hj' j hj (by rw [hl]; exact Prod.ext (by omega) e2))
  · rw [wi_r, if_neg (by omega)]
    exact h2
  · rw [hrow, upd_n (Ne.symm hk11), wi_r, if_neg (by omega)]
    refine ⟨(h3 hb).1, fun k' hk' => ?_⟩
    rw [wi_c (by omega), upd_n (by omega)]
    exact (h3 hb).2 k' hk'
  · rw [hrow, hst k' hk' hk3, upd_n (by omega)]
    exact h4 k' hk' hk3
  · rw [hrow]
    exact ha
  · rw [wi_c (by omega)]
    exact h6
  · rw [hrow, upd_n (by omega)] at ht
    refine TXR_eq (h7 t ht ht4) (fun x hx hx2 => wi_c ?_) (wi_c (by omega)) ht4
    rcases ho with rfl | rfl <;> omega
theorem PH_0 (h : PH bk xk o μc μm) : PH bk false o μc μm := ⟨fun j h1 h2 h3 => h.1 j h1 h2 (fun q => absurd (h3 q) (by decide)), h.2⟩
/-- the class draws first, the reference later -/
theorem PH_xc (h : PH bk xk o μc μm) (ho : PO o) (v : Int32) : PH bk false o (pm_wi μc o 10 v) μm := by
  obtain ⟨h1, h2, h3, h4, h5, h6, h7⟩ := h
  refine ⟨fun j hj hj6 hx => ?_, ?_, fun hb => ?_, fun k hk hk2 => ?_, h5, h6, fun t ht h4 => TXR_eq (h7 t ht h4) (fun c _ _ => wi_c (by rcases ho with rfl | rfl <;> omega)) rfl h4⟩
  · have hj3 : j ≠ 3 := fun q => absurd (hx q) (by decide)
    rw [wi_r, if_neg]
    · exact h1 j hj hj6 (fun q => absurd q hj3)
    · rintro ⟨e1, e2⟩
      exact hj3 (vw_inj j hj 3 (by decide) (Prod.ext (by show (vz_wl j).1 = 0; omega) (by rw [e2]; decide)))
  · rw [wi_i (by omega)]
    exact h2
  · rw [wi_i (by omega), wi_c (by omega)]
    exact h3 hb
  · have := vs_le k hk hk2
    rw [wi_c (by rcases ho with rfl | rfl <;> omega)]
    exact h4 k hk hk2
theorem PH_xm {v : Int32} (h : PH bk xk o μc μm) (hv : μc.1 o 10 = v) (ha : OA (upd (μm.1 402) 8 v)) : PH bk true o μc (pm_wi μm 402 8 v) := by
  obtain ⟨h1, h2, h3, h4, h5, h6, h7⟩ := h
  have hrow : (pm_wi μm 402 8 v).1 402 = upd (μm.1 402) 8 v := wi_u μm 402 8 v
  refine ⟨fun j hj hj6 hx => ?_, h2, fun hb => ?_, fun k hk hk2 => ?_, ?_, ?_, fun t ht h4 => ?_⟩
  · rw [hrow, vz_cur_lo hj]
    by_cases e : j = 3
    · subst e
      rw [if_neg (by decide), upd_e]
      exact hv
    · rw [upd_n (by split <;> omega), ← vz_cur_lo (a := μm.1 402) hj]
      exact h1 j hj hj6 (fun q => absurd q e)
  · rw [hrow, upd_n (by omega)]
    refine ⟨(h3 hb).1, fun k' hk' => ?_⟩
    rw [upd_n (by omega)]
    exact (h3 hb).2 k' hk'
  · rw [hrow, upd_n (by omega)]
    exact h4 k hk hk2
  · rw [hrow]
    exact ha
  · rw [wi_c (by omega)]
    exact h6
  · rw [hrow, upd_n (by omega)] at ht
    exact TXR_eq (h7 t ht h4) (fun _ _ _ => rfl) (wi_c (by omega)) h4
end PHs
def vz_ice (a : Nat → Int32) (x : Int) : Bool := decide (0 ≤ x ∧ x < (a 0).toInt ∧ a (12 + 2 * x.toNat) = -1)
theorem ph_iceC {bk xk : Bool} {o : Nat} {μc μm : PM} (h : PH bk xk o μc μm) (v : Int32) : fX10_isFrozen μc o v = some (if vz_ice (μm.1 402) v.toInt = true then 1 else 0) := by
  have hb := ob_names (ph_ob h)
  unfold fX10_isFrozen vz_ice
  simp only [i_lt, i_le, ph_names h, show (0 : Int32).toInt = 0 from rfl, show (6 : Int32).toInt = 6 from rfl]
  by_cases h1 : v.toInt < 0
  · rw [if_pos h1, if_neg (by rw [decide_eq_true_eq]; omega)]
  rw [if_neg h1]
  by_cases h2 : (μm.1 402 0).toInt ≤ v.toInt
  · rw [if_pos h2, if_neg (by rw [decide_eq_true_eq]; omega)]
  rw [if_neg h2, if_neg (by omega)]
  obtain ⟨n, rfl, hn, hn2⟩ := nz_of (v := v) (k := 6) (by omega) (by omega)
  rw [chk_n (by omega) (by omega), cl_n (by omega), ph_place h (by omega), hn2, Int.toNat_natCast]
  by_cases h3 : μm.1 402 (12 + 2 * n) = -1
  · rw [if_pos h3, if_pos (by rw [decide_eq_true_eq]; exact ⟨by omega, by omega, h3⟩)]
  · rw [if_neg h3, if_neg (by rw [decide_eq_true_eq]; exact fun q => h3 q.2.2)]
theorem ph_iceM {μ : PM} (hb : OB (μ.1 402)) (v : Int64) : fX12_iceOf μ v = some (if vz_ice (μ.1 402) v.toInt = true then 1 else 0) := by
  have hn := ob_names hb
  have e0 : (0 : Int64).toInt = 0 := by decide
  have e6 : (6 : Int64).toInt = 6 := by decide
  unfold fX12_iceOf vz_ice
  simp only [lc_lt, lc_ge, e0, e6]
  by_cases h1 : v.toInt < 0
  · rw [if_pos h1, if_neg (by rw [decide_eq_true_eq]; omega)]
  rw [if_neg h1]
  by_cases h2 : 6 ≤ v.toInt
  · rw [if_pos h2, if_neg (by rw [decide_eq_true_eq]; omega)]
  rw [if_neg h2, q_iceM hb, q_some01, li (by omega) (by omega)]
  have e : v.toInt32.toNatClampNeg = v.toInt.toNat := by
    rw [← Int32.toNat_toInt, li (by omega) (by omega)]
  rw [e]
  by_cases h3 : 0 ≤ v.toInt ∧ v.toInt < (μ.1 402 0).toInt ∧ μ.1 402 (12 + 2 * v.toInt.toNat) = -1
  · rw [if_pos ⟨⟨h3.1, h3.2.1⟩, h3.2.2⟩, if_pos (decide_eq_true h3)]
  · rw [if_neg (fun q => h3 ⟨q.1.1, q.1.2, q.2⟩), if_neg (by rw [decide_eq_true_eq]; exact h3)]
/-- one law of a TEXT, run by both -/
theorem says_find {μ : PM} {t s N k : Nat} {wo lo hi : Int32} (ht : t < 4) (hN : N ≤ 24) (hm : μ.1 404 (681 * t) = nI N) (hk : k < N) (h1 : μ.1 404 (681 * t + 1 + 3 * k) = nI s) (h2 : ∀ k', k' < k → μ.1 404 (681 * t + 1 + 3 * k') ≠ nI s) :
    fX12_says μ (nI t) (nI s) wo lo hi = (fX12_summedUp μ (nI t) (nI k)).bind fun q5 => some (fX12_cut q5.1 lo hi, q5.2) := by
  have i1 : 681 * nI t = nI (681 * t) := l_mul 681 t
  have i2 : ∀ j, nI (681 * t) + 1 + 3 * nI j = nI (681 * t + 1 + 3 * j) := fun j => by rw [l_mul 3, add_l 1, nI_add]
  have hl := lp_cnt (f := fun q => lbX12_says_3 μ (nI t) (nI s) wo lo hi q) (fun i => nI i) 0 k (.inl (nI k)) (fun i _ hi2 => by
    show lbX12_says_3 μ (nI t) (nI s) wo lo hi (nI i) = _
    unfold lbX12_says_3
    rw [if_neg (nI_pos (by omega)), i1, i2, chk_n (by omega) (by omega), cl_n (show 681 * t < 2147483648 by omega), hm, if_neg (by rw [le_n (by omega) (by omega)]; omega), chk_n (by omega) (by omega), cl_n (by omega), if_neg (h2 i hi2), add_l 1]) (by
    show lbX12_says_3 μ (nI t) (nI s) wo lo hi (nI k) = _
    unfold lbX12_says_3
    rw [if_neg (nI_pos (by omega)), i1, i2, chk_n (by omega) (by omega), cl_n (show 681 * t < 2147483648 by omega), hm, if_neg (by rw [le_n (by omega) (by omega)]; omega), chk_n (by omega) (by omega), cl_n (by omega), if_pos h1]) go_fuel 0 (by omega) (by omega) (by unfold go_fuel; omega)
  unfold fX12_says
  rw [show (0 : Int32) = nI 0 from rfl, hl]
  rfl
theorem says_none {μ : PM} {t s N : Nat} {wo lo hi : Int32} (ht : t < 4) (hN : N ≤ 24) (hm : μ.1 404 (681 * t) = nI N) (h2 : ∀ k', k' < N → μ.1 404 (681 * t + 1 + 3 * k') ≠ nI s) : fX12_says μ (nI t) (nI s) wo lo hi = some (wo, μ) := by
  have i1 : 681 * nI t = nI (681 * t) := l_mul 681 t
  have i2 : ∀ j, nI (681 * t) + 1 + 3 * nI j = nI (681 * t + 1 + 3 * j) := fun j => by rw [l_mul 3, add_l 1, nI_add]
  have hl := lp_cnt (f := fun q => lbX12_says_3 μ (nI t) (nI s) wo lo hi q) (fun i => nI i) 0 N (.inr (wo, μ)) (fun i _ hi2 => by
    show lbX12_says_3 μ (nI t) (nI s) wo lo hi (nI i) = _
    unfold lbX12_says_3
    rw [if_neg (nI_pos (by omega)), i1, i2, chk_n (by omega) (by omega), cl_n (show 681 * t < 2147483648 by omega), hm, if_neg (by rw [le_n (by omega) (by omega)]; omega), chk_n (by omega) (by omega), cl_n (by omega), if_neg (h2 i hi2), add_l 1]) (by
    show lbX12_says_3 μ (nI t) (nI s) wo lo hi (nI N) = _
    unfold lbX12_says_3
    rw [if_neg (nI_pos (by omega)), i1, chk_n (by omega) (by omega), cl_n (show 681 * t < 2147483648 by omega), hm, if_pos (by rw [le_n (by omega) (by omega)]; omega)]) go_fuel 0 (by omega) (by omega) (by unfold go_fuel; omega)
  unfold fX12_says
  rw [show (0 : Int32) = nI 0 from rfl, hl]
  rfl
theorem vz_lim_le (s : Nat) : vz_lim s ≤ 9 := by unfold vz_lim; (repeat' split) <;> omega
theorem law_both {bk xk : Bool} {o t s : Nat} {μc μm : PM} (h : PH bk xk o μc μm) (ho : PO o) (ht : t < 4) (htt : (t : Int) < (μm.1 402 2).toInt) (hs : s < 3) (hk : ∀ j, j < vz_lim s → μc.1 384 j = μm.1 407 j ∧ -1000000 ≤ (μm.1 407 j).toInt ∧ (μm.1 407 j).toInt ≤ 1000000) :
    (μc.1 (347 + 7 * t) s = -1 ∧ ∀ wo lo hi, fX12_says μm (nI t) (nI s) wo lo hi = some (wo, μm)) ∨
    (μc.1 (347 + 7 * t) s ≠ -1 ∧ ∃ (r : Int32) (μc' : PM), fX2_run μc (343 + 7 * t) (nI s) o = some (r, μc') ∧ (∀ c, c ≠ 385 → μc'.1 c = μc.1 c) ∧ μc'.2 = μc.2 ∧ ∀ wo lo hi : Int32, lo.toInt ≤ hi.toInt → ∃ μm', fX12_says μm (nI t) (nI s) wo lo hi = some (fX2_within r.toInt64 lo hi, μm') ∧ ∀ c, c ≠ 409 → μm'.1 c = μm.1 c) := by
  obtain ⟨N, hN, -, hm, -, hl⟩ := h.2.2.2.2.2.2 t htt ht
  rcases hl s hs with ⟨h1, h2⟩ | ⟨k, hkN, h1, h2, p, f, c, m, p1, p2, p3, p4, p5, p6, p7, p8, p9, p10, p11⟩
  · exact Or.inl ⟨h1, fun wo lo hi => says_none ht hN hm h2⟩
  right
  have hlim := vz_lim_le s
  have kb : ∀ j, j < 9 → -1000000 ≤ (if j < vz_lim s then (μm.1 407 j).toInt else 0) ∧ (if j < vz_lim s then (μm.1 407 j).toInt else 0) ≤ 1000000 := fun j hj => by
    by_cases q : j < vz_lim s
    · rw [if_pos q]; exact (hk j q).2
    · rw [if_neg q]; omega
  obtain ⟨x, x1, x2, x3, x4⟩ := p11 (fun j => if j < vz_lim s then (μm.1 407 j).toInt else 0) (vz_ice (μm.1 402)) kb
  obtain ⟨n, hreach⟩ := x3 (fun j => c.getD (j - p) (0, 0)) (fun j hj => by dsimp only; rw [Nat.add_sub_cancel_left])
  have hlt := cz_lt hreach
  have hlt : p + n ≤ p + c.length := hlt
  have hcd : ∀ j, p ≤ j → j < p + c.length → (c.getD (j - p) (0, 0)).1 < 64 ∧ (c.getD (j - p) (0, 0)).2 < 10000 ∧ ((c.getD (j - p) (0, 0)).1 = 10 → (c.getD (j - p) (0, 0)).2 < vz_lim s) := fun j hj1 hj2 => by
    have hlt2 : j - p < c.length := by omega
    rw [List.getD_eq_getElem?_getD, List.getElem?_eq_getElem hlt2]
    exact p9 _ (List.getElem_mem hlt2)
  have ho3 : o + 1 < 384 := by rcases ho with rfl | rfl <;> omega
  obtain ⟨μ1, r1, r2, r3, r4⟩ := run_all (a0 := 343 + 7 * t) (o := o) (a1 := nI s) (p0 := p) (pe := p + c.length) (lim := vz_lim s) p1 hlim hcd ⟨by omega, by omega⟩ kb ho3 n p [] 0 μc go_fuel hreach (by omega) (by omega) (by unfold go_fuel; omega) (fun j hj1 hj2 => by
    have := p4 (j - p) (by omega)
    rw [show p + (j - p) = j by omega] at this
    rw [show 343 + 7 * t + 5 = 348 + 7 * t by omega, show 343 + 7 * t + 6 = 349 + 7 * t by omega]
    exact this) (by rw [show 343 + 7 * t + 5 = 348 + 7 * t by omega]; exact p5) (fun j hj => by rw [if_pos hj, (hk j hj).1]) (fun v => ph_iceC h v) (fun i hi => by cases hi) (fun y hy => by cases hy)
  have hrun : fX2_run μc (343 + 7 * t) (nI s) o = some (μ1.1 385 0, μ1) := by
    unfold fX2_run
    simp only [go_let]
    rw [chk_n hs (by omega), cl_n (show s < 2147483648 by omega), show 343 + 7 * t + 4 = 347 + 7 * t by omega, p3, show (0 : Int32) = nI 0 from rfl]
    have r1' : lp (fun q => lbX2_run_14 (343 + 7 * t) (nI s) o q.1 q.2.1 q.2.2.1 q.2.2.2) go_fuel (nI p, nI 0, nI 0, μc) = some (.inl (1, μ1)) := r1
    rw [r1', Option.bind_some]
    dsimp only [go_cs]
    unfold jjX2_run_347
    rw [if_neg (by decide), show (1 : Int32) - 1 = nI 0 from rfl, chk_n (by omega) (by omega), cl_n (by omega)]
  have hne : μc.1 (347 + 7 * t) s ≠ -1 := by
    rw [p3]
    exact fun q => (neg1_ne (by omega)).mp q
  have hE : f + m.length ≤ 304 := p2
  obtain ⟨w, μ2, w1, w2, w3⟩ := sum_all (t := t) (k := k) (E := f + m.length) (lim := vz_lim s) (a0 := nI t) (a1 := nI k) ht (by omega) hE hlim kb m f [] [] μm go_fuel x4 rfl (by unfold go_fuel; omega) p10 p7 (fun j hj => by
    have := p8 j hj
    exact this) (fun j hj => by rw [if_pos hj]) (fun v => ph_iceM (ph_ob h) v) (fun i hi => by cases hi) (fun i hi => by cases hi) (fun y hy => by cases hy) (by simp; omega) (by simp; omega)
  have hsum : fX12_summedUp μm (nI t) (nI k) = some (w, μ2) := by
    unfold fX12_summedUp
    simp only [go_let]
    have i1 : 681 * nI t = nI (681 * t) := l_mul 681 t
    have i2 : nI (681 * t) + 1 + 3 * nI k = nI (681 * t + 1 + 3 * k) := by rw [l_mul 3, add_l 1, nI_add]
    have i3 : nI (681 * t) + 73 = nI (681 * t + 73) := add_l 73 _
    have i4 : nI (681 * t + 1 + 3 * k) + 1 = nI (681 * t + 2 + 3 * k) := by rw [add_l 1]; congr 1; omega
    rw [i1, i2, i3, i4, chk_n (by omega) (by omega), cl_n (by omega), p6, show (0 : Int32) = nI 0 from rfl]
    have w1' : lp (fun q => lbX12_summedUp_38 (nI t) (nI k) (nI (681 * t + 1 + 3 * k)) (nI (681 * t + 73)) q.1 q.2.1 q.2.2.1 q.2.2.2) go_fuel (nI 0, nI 0, nI f, μm) = some (w, μ2) := w1
    rw [w1']
    rfl
  refine ⟨hne, _, μ1, hrun, r3, r4, fun wo lo hi hlh => ⟨μ2, ?_, w3⟩⟩
  rw [says_find ht hN hm hkN h1 h2, hsum, Option.bind_some]
  have : fX12_cut w lo hi = fX2_within (μ1.1 385 0).toInt64 lo hi := by
    refine i_eq.mpr ?_
    rw [q_cut hlh, q_within hlh, il, r2, w2]
  rw [this]
