/-! ===== calls that tell and ask ===== -/
def VZ (μ : PM) (q : Nat) (a : Nat → Int32) : Prop := VF μ q a ∧ VB μ q a ∧ VS μ q a ∧ (a 4).toInt ≤ 30
theorem VV.z {μ : PM} {q : Nat} {a : Nat → Int32} (h : VV μ q a) : VZ μ q a := ⟨h.1, h.2.1, h.2.2.1, (ob_count h.2.2.2.1).2⟩
theorem VZ.v {μ : PM} {q : Nat} {a : Nat → Int32} (h : VZ μ q a) (ho : OA a) : VV μ q a := ⟨h.1, h.2.1, h.2.2.1, ho⟩
theorem VZ_w {μ : PM} {a : Nat → Int32} {k c i : Nat} {v : Int32} (h : VZ μ 1 a) (hk : k < 142) (hk4 : k ≠ 4) (hl : vz_loc k = (c, i)) : VZ (pm_wi μ (1 + c) i v) 1 (upd a k v) := by
  have hll := vz_loc_le k hk
  have hF := VF_set h.1 hk v
  rw [hl] at hF hll
  refine ⟨hF, VB_eq h.2.1 (fun j hj => ?_) (fun j hj => upd_n (by omega)), VS_eq h.2.2.1 ?_ (fun c' h1 h2 => wi_c (by have := hll.1; dsimp only at this; omega)) (upd_n (Ne.symm hk4)) (fun j h1 h2 => upd_n (by omega)) h.2.2.2, by rw [upd_n (Ne.symm hk4)]; exact h.2.2.2⟩
  · rw [wi_c (by have := hll.2.1; dsimp only at this; omega)]
  · rw [wi_r, if_neg]
    rintro ⟨e1, e2⟩
    have := hll.2.2.1 (by dsimp only; omega)
    dsimp only at this
    omega
theorem OB_eq {a a' : Nat → Int32} (h : OB a) (he : ∀ k, k < 142 → a' k = a k ∨ (vz_lo k ≤ (a' k).toInt ∧ (a' k).toInt ≤ vz_hi k)) : OB a' := by
  intro k hk
  rcases he k hk with h1 | h1
  · rw [h1]; exact h k hk
  · exact h1
theorem OA_name {a a' : Nat → Int32} {N z : Nat} {s l : Int32} (h : OA a) (hN : a 0 = nI N) (hN6 : N < 6) (h0 : a' 0 = nI (N + 1)) (hs : a' (30 + N) = s) (hsd : vz_sd s) (hl : a' (36 + N) = l) (hl2 : 0 ≤ l.toInt ∧ l.toInt ≤ 9) (hp : a' (12 + 2 * N) = -1) (hz : a' (13 + 2 * N) = nI z) (hz2 : 1 ≤ z ∧ z ≤ 5) (he : ∀ j, j ≠ 0 → j ≠ 30 + N → j ≠ 36 + N → j ≠ 12 + 2 * N → j ≠ 13 + 2 * N → a' j = a j) : OA a' := by
  obtain ⟨h1, h2, h3, h4, h5, h6, h7, h8⟩ := h
  have e0 : (a' 0).toInt = N + 1 := by rw [h0, ti_n (by omega)]; omega
  have e1 : (a 0).toInt = N := by rw [hN, ti_n (by omega)]
  have ecur : ∀ j, j < 24 → j ≠ 0 → j ≠ 7 + 2 * N → j ≠ 8 + 2 * N → vz_cur a' j = vz_cur a j := fun j hj q1 q2 q3 => by
    unfold vz_cur
    by_cases hj2 : j < 2
    · rw [if_pos hj2, if_pos hj2]
      exact he j q1 (by omega) (by omega) (by omega) (by omega)
    · rw [if_neg hj2, if_neg hj2, if_pos hj, if_pos hj]
      exact he _ (by omega) (by omega) (by omega) (by omega) (by omega)
  have c0 : vz_cur a' 0 = nI (N + 1) := h0
  have cp : vz_cur a' (7 + 2 * N) = -1 := by
    unfold vz_cur
    rw [if_neg (by omega), if_pos (by omega), show 5 + (7 + 2 * N) = 12 + 2 * N by omega]
    exact hp
  have cz : vz_cur a' (8 + 2 * N) = nI z := by
    unfold vz_cur
    rw [if_neg (by omega), if_pos (by omega), show 5 + (8 + 2 * N) = 13 + 2 * N by omega]
    exact hz
  refine ⟨OB_eq h1 (fun k hk => ?_), ⟨fun j hj => ?_, fun n hn => ?_, fun n hn hn6 => ?_⟩, fun n hn => ?_, ?_, fun f hf => ?_, fun i hi => ?_, fun i hi => ?_, fun i hi => ?_⟩
  · by_cases k0 : k = 0
    · subst k0; right
      show 0 ≤ _ ∧ _ ≤ 6
      omega
    by_cases k1 : k = 30 + N
    · subst k1; right
      rw [(vb_sounds N hN6).1, (vb_sounds N hN6).2, hs]
      have := hsd.1; have := hsd.2.1; omega
    by_cases k2 : k = 36 + N
    · subst k2; right
      rw [(vb_layer N hN6).1, (vb_layer N hN6).2, hl]
      exact hl2
    by_cases k3 : k = 12 + 2 * N
    · subst k3; right
      rw [(vb_place N hN6).1, (vb_place N hN6).2, hp]
      decide
    by_cases k4 : k = 13 + 2 * N
    · subst k4; right
      rw [(vb_size N hN6).1, (vb_size N hN6).2, hz, ti_n (by omega)]
      omega
    · left
      exact he k k0 k1 k2 k3 k4
  · by_cases k0 : j = 0
    · subst k0
      rw [c0, ti_n (by omega)]
      show 0 ≤ _ ∧ _ ≤ 6
      omega
    by_cases k3 : j = 7 + 2 * N
    · subst k3
      rw [cp, if_neg (by omega), show 5 + (7 + 2 * N) = 12 + 2 * N by omega, (vb_place N hN6).1, (vb_place N hN6).2]
      decide
    by_cases k4 : j = 8 + 2 * N
    · subst k4
      rw [cz, if_neg (by omega), show 5 + (8 + 2 * N) = 13 + 2 * N by omega, (vb_size N hN6).1, (vb_size N hN6).2, ti_n (by omega)]
      omega
    · rw [ecur j hj k0 k3 k4]
      exact h2.1 j hj
  · by_cases k3 : n = N
    · subst k3
      left
      rw [cp]; decide
    · rw [ecur _ (by omega) (by omega) (by omega) (by omega)]
      exact h2.2.1 n hn
  · rw [c0, ti_n (by omega)] at hn
    by_cases k3 : n = N
    · subst k3
      rw [cz, ti_n (by omega)]
      omega
    · rw [ecur _ (by omega) (by omega) (by omega) (by omega)]
      refine h2.2.2 n ?_ hn6
      show _ < (a 0).toInt
      omega
  · by_cases k3 : n = N
    · subst k3
      rw [hs]; exact hsd
    · rw [he _ (by omega) (by omega) (by omega) (by omega) (by omega)]
      exact h3 n (by omega)
  · rw [he 3 (by omega) (by omega) (by omega) (by omega) (by omega), he 2 (by omega) (by omega) (by omega) (by omega) (by omega)]
    exact h4
  · rw [he _ (by omega) (by omega) (by omega) (by omega) (by omega), he 1 (by omega) (by omega) (by omega) (by omega) (by omega)]
    refine ⟨by have := (h5 f hf).1; omega, (h5 f hf).2.1, fun g hg => ?_⟩
    rw [he _ (by omega) (by omega) (by omega) (by omega) (by omega)]
    exact (h5 f hf).2.2 g hg
  · rw [he 6 (by omega) (by omega) (by omega) (by omega) (by omega)] at hi
    have := ob_saidCount h1
    rw [he _ (by omega) (by omega) (by omega) (by omega) (by omega)]
    have := h6 i hi
    omega
  · rw [he 4 (by omega) (by omega) (by omega) (by omega) (by omega)] at hi
    have := ob_count h1
    rw [he (142 + 54 * i) (by omega) (by omega) (by omega) (by omega) (by omega), he (142 + 54 * i + 1) (by omega) (by omega) (by omega) (by omega) (by omega), he 1 (by omega) (by omega) (by omega) (by omega) (by omega)]
    refine ⟨WO_eq (h7 i hi).1 (fun j hj => he _ (by omega) (by omega) (by omega) (by omega) (by omega)), ?_, (h7 i hi).2.2⟩
    have := (h7 i hi).2.1
    omega
  · rw [he (117 + i) (by omega) (by omega) (by omega) (by omega) (by omega)]
    exact h8 i hi
theorem c_name (s l : Int32) : BOTH (fun μ => fX11_name μ s l) (fun μ => fX12_name μ s l) := by
  intro μc μm h
  have hV := h.1
  have hO := hV.2.2.2
  dsimp only
  obtain ⟨N, hN, hN6, hN2⟩ := nz_of (v := μm.1 402 0) (k := 7) (ob_names hO.1).1 (by have := (ob_names hO.1).2; omega)
  have hNc : μc.1 12 5 = nI N := by rw [v1_names hV.1]; exact hN
  unfold fX11_name fX12_name
  rcases q_sounds s with ⟨s1, s2⟩ | ⟨hsd, z, hz1, hz2, s1, s2, s3, -⟩
  · rw [s1, s2]
    simp only [Option.bind_some, if_true]
    exact ⟨-1, μc, μm, rfl, rfl, h, FrC.rfl' _, FrM.rfl' _⟩
  rw [s1, s2, q_isIn, Option.bind_some, Option.bind_some, if_neg (by rw [eq_l (n := 0) (by omega) (by omega)]; omega), if_neg (show ¬ (1 : Int32) = 0 by decide), q_ite]
  simp only [i_lt (a := l), i_le (b := l), show (0 : Int32).toInt = 0 from rfl, show (9 : Int32).toInt = 9 from rfl, show (10 : Int32).toInt = 10 from rfl, hNc, hN]
  by_cases hl : 0 ≤ l.toInt ∧ l.toInt ≤ 9
  · rw [if_neg (by omega), if_neg (by omega), if_neg (show ¬ nI N < 0 from nI_pos (by omega)), if_pos hl]
    by_cases h6 : N = 6
    · subst h6
      rw [if_neg (by decide), if_pos (by decide)]
      exact ⟨-1, μc, μm, rfl, rfl, h, FrC.rfl' _, FrM.rfl' _⟩
    · have hN6' : N < 6 := by omega
      rw [if_pos (by rw [lt_l (n := 6) (by omega) (by omega)]; exact hN6'), if_neg (by rw [eq_l (n := 6) (by omega) (by omega)]; exact h6)]
      unfold fX12_begin fX12_put
      simp (disch := omega) only [l_add 30, l_add 36, l_mul 2, l_add 12, add_l 0, add_l 1, Nat.add_zero, go_let, cl_n, chk_n, Option.bind_some]
      have e1 : (pm_wi (pm_wi (pm_wi μm 402 (30 + N) s) 402 (36 + N) l) 402 (12 + 2 * N) (-1)).1 402 (30 + N) = s := by
        simp (disch := omega) only [wi_i, wi_e]
      rw [e1, s3]
      simp (disch := omega) only [Option.bind_some, wi_i, wi_e, wi_c, hN, hNc, add_l 1]
      refine ⟨_, _, _, rfl, rfl, RR_of h ?_ ?_ ?_ ?_⟩
      · exact ((((EC.rfl' _).wi (by omega)).wi (by omega)).wi (by omega)).wi (by omega) |>.wi (by omega)
      · exact ((((EM.rfl' _).wi (by omega)).wi (by omega)).wi (by omega)).wi (by omega) |>.wi (by omega)
      · simp only [wi_u]
        have w1 := VZ_w (v := s) hV.z (k := 30 + N) (by omega) (by omega) (vl_sounds N hN6')
        have w2 := VZ_w (v := l) w1 (k := 36 + N) (by omega) (by omega) (vl_layer N hN6')
        have w3 := VZ_w (v := -1) w2 (k := 12 + 2 * N) (by omega) (by omega) (vl_place N hN6')
        have w4 := VZ_w (v := nI z) w3 (k := 13 + 2 * N) (by omega) (by omega) (vl_size N hN6')
        have w5 := VZ_w (v := nI (N + 1)) w4 (k := 0) (by omega) (by omega) (show vz_loc 0 = (11, 5) from rfl)
        rw [show 12 + 2 * N + 1 = 13 + 2 * N by omega]
        refine w5.v (OA_name hO hN hN6' (upd_e _ _ _) ?_ hsd ?_ hl ?_ ?_ ⟨hz1, hz2⟩ (fun j q1 q2 q3 q4 q5 => ?_))
        · simp (disch := omega) only [upd_n, upd_e]
        · simp (disch := omega) only [upd_n, upd_e]
        · simp (disch := omega) only [upd_n, upd_e]
        · simp (disch := omega) only [upd_n, upd_e]
        · simp (disch := omega) only [upd_n]
      · simp (disch := omega) only [wi_i]
  · rw [if_neg (c := 0 ≤ l.toInt ∧ l.toInt ≤ 9) hl]
    refine ⟨-1, μc, μm, ?_, rfl, h, FrC.rfl' _, FrM.rfl' _⟩
    by_cases hl0 : l.toInt < 0
    · rw [if_pos hl0]
    · rw [if_neg hl0, if_pos (by omega)]
