theorem vz_cur_lo {a : Nat → Int32} {j : Nat} (h : j < 24) : vz_cur a j = a (if j < 2 then j else 5 + j) := by
  unfold vz_cur
  by_cases h2 : j < 2
  · rw [if_pos h2, if_pos h2]
  · rw [if_neg h2, if_neg h2, if_pos h]
theorem OA_family {a a' : Nat → Int32} {F : Nat} {n l : Int32} (h : OA a) (hF : a 1 = nI F) (hF5 : F < 5) (h0 : a' 1 = nI (F + 1)) (hn : a' (42 + F) = n) (hn2 : 1 ≤ n.toInt ∧ n.toInt ≤ 9) (hl : a' (47 + F) = l) (hs : a' (24 + F) = l) (hl2 : 0 ≤ l.toInt ∧ l.toInt ≤ 9) (he : ∀ j, j ≠ 1 → j ≠ 42 + F → j ≠ 47 + F → j ≠ 24 + F → a' j = a j) : OA a' := by
  obtain ⟨h1, h2, h3, h4, h5, h6, h7, h8⟩ := h
  have e0 : (a' 1).toInt = F + 1 := by rw [h0, ti_n (by omega)]; omega
  have e1 : (a 1).toInt = F := by rw [hF, ti_n (by omega)]
  have ecur : ∀ j, j < 24 → j ≠ 1 → j ≠ 19 + F → vz_cur a' j = vz_cur a j := fun j hj q1 q2 => by
    rw [vz_cur_lo hj, vz_cur_lo hj]
    split
    · exact he _ (by omega) (by omega) (by omega) (by omega)
    · exact he _ (by omega) (by omega) (by omega) (by omega)
  refine ⟨OB_eq h1 (fun k hk => ?_), ⟨fun j hj => ?_, fun n hn => ?_, fun n hn hn6 => ?_⟩, fun n hn => ?_, ?_, fun f hf => ?_, fun i hi => ?_, fun i hi => ?_, fun i hi => ?_⟩
  · by_cases k0 : k = 1
    · subst k0; right
      show 0 ≤ _ ∧ _ ≤ 5
      omega
    by_cases k1 : k = 42 + F
    · subst k1; right
      rw [(vb_net F hF5).1, (vb_net F hF5).2, hn]
      omega
    by_cases k2 : k = 47 + F
    · subst k2; right
      rw [(vb_home F hF5).1, (vb_home F hF5).2, hl]
      exact hl2
    by_cases k3 : k = 24 + F
    · subst k3; right
      rw [(vb_stand F hF5).1, (vb_stand F hF5).2, hs]
      exact hl2
    · left
      exact he k k0 k1 k2 k3
  · by_cases k0 : j = 1
    · subst k0
      rw [vz_cur_lo hj]
      show 0 ≤ (a' 1).toInt ∧ (a' 1).toInt ≤ 5
      omega
    by_cases k3 : j = 19 + F
    · subst k3
      rw [vz_cur_lo hj, if_neg (by omega), show 5 + (19 + F) = 24 + F by omega, (vb_stand F hF5).1, (vb_stand F hF5).2, hs]
      exact hl2
    · rw [ecur j hj k0 k3]
      exact h2.1 j hj
  · rw [ecur _ (by omega) (by omega) (by omega)]
    exact h2.2.1 n hn
  · rw [ecur 0 (by omega) (by omega) (by omega)] at hn
    rw [ecur _ (by omega) (by omega) (by omega)]
    exact h2.2.2 n hn hn6
  · have := ob_names h1
    rw [he 0 (by omega) (by omega) (by omega) (by omega)] at hn
    rw [he _ (by omega) (by omega) (by omega) (by omega)]
    exact h3 n hn
  · rw [he 3 (by omega) (by omega) (by omega) (by omega), he 2 (by omega) (by omega) (by omega) (by omega)]
    exact h4
  · rw [he (112 + f) (by omega) (by omega) (by omega) (by omega), he 0 (by omega) (by omega) (by omega) (by omega)]
    refine ⟨(h5 f hf).1, fun q => (h5 f hf).2.1 (by omega), fun g hg => ?_⟩
    rw [he _ (by omega) (by omega) (by omega) (by omega)]
    exact (h5 f hf).2.2 g hg
  · rw [he 6 (by omega) (by omega) (by omega) (by omega)] at hi
    have := ob_saidCount h1
    rw [he _ (by omega) (by omega) (by omega) (by omega), he 0 (by omega) (by omega) (by omega) (by omega)]
    exact h6 i hi
  · rw [he 4 (by omega) (by omega) (by omega) (by omega)] at hi
    have := ob_count h1
    rw [he (142 + 54 * i) (by omega) (by omega) (by omega) (by omega), he (142 + 54 * i + 1) (by omega) (by omega) (by omega) (by omega), he 0 (by omega) (by omega) (by omega) (by omega)]
    refine ⟨WO_eq (h7 i hi).1 (fun j hj => he _ (by omega) (by omega) (by omega) (by omega)), (h7 i hi).2.1, ?_⟩
    have := (h7 i hi).2.2
    omega
  · rw [he (117 + i) (by omega) (by omega) (by omega) (by omega)]
    exact h8 i hi
theorem c_family (n l : Int32) : BOTH (fun μ => fX11_family μ n l) (fun μ => fX12_family μ n l) := by
  intro μc μm h
  have hV := h.1
  have hO := hV.2.2.2
  dsimp only
  obtain ⟨F, hF, hF5, hF2⟩ := nz_of (v := μm.1 402 1) (k := 6) (ob_families hO.1).1 (by have := (ob_families hO.1).2; omega)
  have hFc : μc.1 12 6 = nI F := by rw [v1_families hV.1]; exact hF
  unfold fX11_family fX12_family
  rw [q_cellC, q_cellM, q_isIn, q_ite, q_ite, q_ite]
  simp only [i_lt (a := n), i_lt (b := n), show (1 : Int32).toInt = 1 from rfl, show (9 : Int32).toInt = 9 from rfl, hFc, hF]
  by_cases hn : 1 ≤ n.toInt ∧ n.toInt ≤ 9
  · rw [if_neg (by omega), if_neg (by omega), if_pos hn]
    by_cases hl : 0 ≤ l.toInt ∧ l.toInt ≤ 9
    · rw [if_pos hl, if_pos hl, if_neg (show ¬ nI F < 0 from nI_pos (by omega))]
      by_cases h6 : F = 5
      · subst h6
        rw [if_neg (by decide), if_pos (by decide)]
        exact ⟨-1, μc, μm, rfl, rfl, h, FrC.rfl' _, FrM.rfl' _⟩
      · have hF5' : F < 5 := by omega
        rw [if_pos (by rw [lt_l (n := 5) (by omega) (by omega)]; exact hF5'), if_neg (by rw [eq_l (n := 5) (by omega) (by omega)]; exact h6)]
        simp (disch := omega) only [l_add 42, l_add 47, l_add 24, add_l 1, go_let, cl_n, chk_n, wi_i, wi_e, wi_c, hF, hFc]
        refine ⟨_, _, _, rfl, rfl, RR_of h ?_ ?_ ?_ ?_⟩
        · exact ((((EC.rfl' _).wi (by omega)).wi (by omega)).wi (by omega)).wi (by omega)
        · exact ((((EM.rfl' _).wi (by omega)).wi (by omega)).wi (by omega)).wi (by omega)
        · simp only [wi_u]
          have w1 := VZ_w (v := n) hV.z (k := 42 + F) (by omega) (by omega) (vl_net F hF5')
          have w2 := VZ_w (v := l) w1 (k := 47 + F) (by omega) (by omega) (vl_home F hF5')
          have w3 := VZ_w (v := l) w2 (k := 24 + F) (by omega) (by omega) (vl_stand F hF5')
          have w4 := VZ_w (v := nI (F + 1)) w3 (k := 1) (by omega) (by omega) (show vz_loc 1 = (11, 6) from rfl)
          refine w4.v (OA_family hO hF hF5' (upd_e _ _ _) ?_ hn ?_ ?_ hl (fun j q1 q2 q3 q4 => ?_))
          · simp (disch := omega) only [upd_n, upd_e]
          · simp (disch := omega) only [upd_n, upd_e]
          · simp (disch := omega) only [upd_n, upd_e]
          · simp (disch := omega) only [upd_n]
        · simp (disch := omega) only [wi_i]
    · rw [if_neg hl, if_neg hl]
      exact ⟨-1, μc, μm, rfl, rfl, h, FrC.rfl' _, FrM.rfl' _⟩
  · rw [if_neg (c := 1 ≤ n.toInt ∧ n.toInt ≤ 9) hn]
    refine ⟨-1, μc, μm, ?_, rfl, h, FrC.rfl' _, FrM.rfl' _⟩
    by_cases hl0 : n.toInt < 1
    · rw [if_pos hl0]
    · rw [if_neg hl0, if_pos (by omega)]
/-- what stands but for one place that the rest of the bounds looks at in its own way -/
theorem OA_3 {a : Nat → Int32} {v : Int32} (h : OA a) (hv : -1 ≤ v.toInt ∧ v.toInt < (a 2).toInt) : OA (upd a 3 v) := by
  obtain ⟨h1, h2, h3, h4, h5, h6, h7, h8⟩ := h
  have u : ∀ j, j ≠ 3 → upd a 3 v j = a j := fun j hj => upd_n hj
  have h2t := ob_texts h1
  refine ⟨OB_set h1 ?_, WO_eq h2 (fun j hj => vz_cur_upd (fun j hj => ?_) j (by omega)), fun n hn => ?_, ?_, fun f hf => ?_, fun i hi => ?_, fun i hi => ?_, fun i hi => ?_⟩
  · show -1 ≤ _ ∧ _ ≤ 3
    omega
  · split
    · omega
    · split <;> omega
  · rw [u 0 (by omega)] at hn
    have := ob_names h1
    rw [u _ (by omega)]
    exact h3 n hn
  · rw [upd_e, u 2 (by omega)]
    exact hv.2
  · rw [u _ (by omega), u 0 (by omega), u 1 (by omega)]
    refine ⟨(h5 f hf).1, (h5 f hf).2.1, fun g hg => ?_⟩
    rw [u _ (by omega)]
    exact (h5 f hf).2.2 g hg
  · rw [u 6 (by omega)] at hi
    have := ob_saidCount h1
    rw [u _ (by omega), u 0 (by omega)]
    exact h6 i hi
  · rw [u 4 (by omega)] at hi
    have := ob_count h1
    rw [u (142 + 54 * i) (by omega), u (142 + 54 * i + 1) (by omega), u 0 (by omega), u 1 (by omega)]
    exact ⟨WO_eq (h7 i hi).1 (fun j hj => u _ (by omega)), (h7 i hi).2⟩
  · rw [u (117 + i) (by omega)]
    exact h8 i hi
theorem c_by (b : Int32) : BOTH (fun μ => some (fX11_by μ b)) (fun μ => some (fX12_by μ b)) := by
  intro μc μm h
  have hV := h.1
  have hO := hV.2.2.2
  have ht := ob_texts hO.1
  dsimp only
  unfold fX11_by fX12_by jjX11_by_15
  rw [q_isIn, q_textC hV.1 hO.1, q_ite, q_ite, ti_sub (by rw [show (1 : Int32).toInt = 1 from rfl]; omega) (by rw [show (1 : Int32).toInt = 1 from rfl]; omega)]
  simp only [show (1 : Int32).toInt = 1 from rfl, show (-1 : Int32).toInt = -1 from rfl]
  have hw : (-1 ≤ b.toInt ∧ b.toInt < (μm.1 402 2).toInt) → RR (pm_wi μc 1 14 b) (pm_wi μm 402 3 b) ∧ FrC μc (pm_wi μc 1 14 b) ∧ FrM μm (pm_wi μm 402 3 b) := fun hb => by
    refine RR_of h ((EC.rfl' _).wi (by omega)) ((EM.rfl' _).wi (by omega)) ?_ ?_
    · rw [wi_u]
      exact VV_w hV (k := 3) (by omega) (by omega) rfl rfl (OA_3 hO hb)
    · simp (disch := omega) only [wi_i]
  by_cases hb1 : b = -1
  · have : b.toInt = -1 := by rw [hb1]; rfl
    rw [if_pos hb1, if_pos (by omega)]
    exact ⟨1, _, _, rfl, rfl, hw (by omega)⟩
  · have hne : b.toInt ≠ -1 := fun q => hb1 (i_eq.mpr q)
    rw [if_neg hb1]
    by_cases hb : 0 ≤ b.toInt ∧ b.toInt < (μm.1 402 2).toInt
    · rw [if_pos hb, if_pos (by omega)]
      exact ⟨1, _, _, rfl, rfl, hw (by omega)⟩
    · rw [if_neg hb, if_neg (by omega)]
      exact ⟨0, μc, μm, rfl, rfl, h, FrC.rfl' _, FrM.rfl' _⟩
theorem c_half (s : Int32) : BOTH (fun μ => fX11_half μ s) (fun μ => fX12_half μ s) := by
  intro μc μm h
  have hV := h.1
  have hO := hV.2.2.2
  dsimp only
  obtain ⟨F, hF, hF5, hF2⟩ := nz_of (v := μm.1 402 5) (k := 9) (ob_halfCount hO.1).1 (by have := (ob_halfCount hO.1).2; omega)
  have hFc : μc.1 1 16 = nI F := by rw [v1_halfCount hV.1]; exact hF
  unfold fX11_half fX12_half
  by_cases hs1 : s = -1
  · rw [if_pos hs1, if_pos hs1]
    refine ⟨0, _, _, rfl, rfl, RR_of h ((EC.rfl' _).wi (by omega)) ((EM.rfl' _).wi (by omega)) ?_ ?_⟩
    · rw [wi_u]
      exact VV_w hV (k := 5) (by omega) (by omega) rfl rfl (OA_free hO (by omega) (by decide))
    · simp (disch := omega) only [wi_i]
  rw [if_neg hs1, if_neg hs1]
  rcases q_sounds s with ⟨s1, s2⟩ | ⟨hsd, z, hz1, hz2, s1, s2, s3, -⟩
  · rw [s1, s2]
    exact ⟨-2, μc, μm, rfl, rfl, h, FrC.rfl' _, FrM.rfl' _⟩
  rw [s1, s2, Option.bind_some, Option.bind_some, if_neg (by rw [eq_l (n := 0) (by omega) (by omega)]; omega), if_neg (show ¬ (1 : Int32) = 0 by decide), hFc, hF, if_neg (show ¬ nI F < 0 from nI_pos (by omega))]
  by_cases h6 : F = 8
  · subst h6
    rw [if_neg (by decide), if_pos (by decide)]
    exact ⟨-2, μc, μm, rfl, rfl, h, FrC.rfl' _, FrM.rfl' _⟩
  · have hF5' : F < 8 := by omega
    rw [if_pos (by rw [lt_l (n := 8) (by omega) (by omega)]; exact hF5'), if_neg (by rw [eq_l (n := 8) (by omega) (by omega)]; exact h6)]
    simp (disch := omega) only [l_add 117, add_l 1, go_let, cl_n, chk_n, wi_i, wi_e, wi_c, hF, hFc]
    refine ⟨_, _, _, rfl, rfl, RR_of h ?_ ?_ ?_ ?_⟩
    · exact ((EC.rfl' _).wi (by omega)).wi (by omega)
    · exact ((EM.rfl' _).wi (by omega)).wi (by omega)
    · simp only [wi_u]
      have w1 := VZ_w (v := s) hV.z (k := 117 + F) (by omega) (by omega) (vl_halves F hF5')
      have w2 := VZ_w (v := nI (F + 1)) w1 (k := 5) (by omega) (by omega) (show vz_loc 5 = (0, 16) from rfl)
      refine w2.v (OA_free (OA_freeH hO (by omega) (fun _ _ _ => Or.inr hsd) ?_) (by omega) ?_)
      · rw [(vb_halves F hF5').1, (vb_halves F hF5').2]
        have := hsd.1; have := hsd.2.1; omega
      · rw [ti_n (by omega)]
        show 0 ≤ _ ∧ _ ≤ 8
        omega
    · simp (disch := omega) only [wi_i]
theorem OA_said {a a' : Nat → Int32} {F : Nat} {n l : Int32} (h : OA a) (hF : a 6 = nI F) (hF8 : F < 8) (h0 : a' 6 = nI (F + 1)) (hn : a' (126 + 2 * F) = n) (hn2 : 0 ≤ n.toInt ∧ n.toInt < (a 0).toInt) (hl : a' (127 + 2 * F) = l) (hl2 : -99 ≤ l.toInt ∧ l.toInt ≤ 99) (he : ∀ j, j ≠ 6 → j ≠ 126 + 2 * F → j ≠ 127 + 2 * F → a' j = a j) : OA a' := by
  obtain ⟨h1, h2, h3, h4, h5, h6, h7, h8⟩ := h
  have e0 : (a' 6).toInt = F + 1 := by rw [h0, ti_n (by omega)]; omega
  have e1 : (a 6).toInt = F := by rw [hF, ti_n (by omega)]
  have hnm := ob_names h1
  refine ⟨OB_eq h1 (fun k hk => ?_), WO_eq h2 (fun j hj => ?_), fun n hn => ?_, ?_, fun f hf => ?_, fun i hi => ?_, fun i hi => ?_, fun i hi => ?_⟩
  · by_cases k0 : k = 6
    · subst k0; right
      show 0 ≤ _ ∧ _ ≤ 8
      omega
    by_cases k1 : k = 126 + 2 * F
    · subst k1; right
      rw [(vb_saidName F hF8).1, (vb_saidName F hF8).2, hn]
      omega
    by_cases k2 : k = 127 + 2 * F
    · subst k2; right
      rw [(vb_saidMelts F hF8).1, (vb_saidMelts F hF8).2, hl]
      exact hl2
    · left
      exact he k k0 k1 k2
  · rw [vz_cur_lo hj, vz_cur_lo hj]
    split
    · exact he _ (by omega) (by omega) (by omega)
    · exact he _ (by omega) (by omega) (by omega)
  · rw [he 0 (by omega) (by omega) (by omega)] at hn
    rw [he _ (by omega) (by omega) (by omega)]
    exact h3 n hn
  · rw [he 3 (by omega) (by omega) (by omega), he 2 (by omega) (by omega) (by omega)]
    exact h4
  · rw [he (112 + f) (by omega) (by omega) (by omega), he 0 (by omega) (by omega) (by omega), he 1 (by omega) (by omega) (by omega)]
    refine ⟨(h5 f hf).1, (h5 f hf).2.1, fun g hg => ?_⟩
    rw [he _ (by omega) (by omega) (by omega)]
    exact (h5 f hf).2.2 g hg
  · rw [e0] at hi
    rw [he 0 (by omega) (by omega) (by omega)]
    by_cases hiF : i = F
    · subst hiF
      rw [hn]; exact hn2.2
    · rw [he _ (by omega) (by omega) (by omega)]
      exact h6 i (by omega)
  · rw [he 4 (by omega) (by omega) (by omega)] at hi
    have := ob_count h1
    rw [he (142 + 54 * i) (by omega) (by omega) (by omega), he (142 + 54 * i + 1) (by omega) (by omega) (by omega), he 0 (by omega) (by omega) (by omega), he 1 (by omega) (by omega) (by omega)]
    exact ⟨WO_eq (h7 i hi).1 (fun j hj => he _ (by omega) (by omega) (by omega)), (h7 i hi).2⟩
  · rw [he (117 + i) (by omega) (by omega) (by omega)]
    exact h8 i hi
theorem OA_6 {a : Nat → Int32} (h : OA a) : OA (upd a 6 0) := by
  obtain ⟨h1, h2, h3, h4, h5, h6, h7, h8⟩ := h
  have u : ∀ j, j ≠ 6 → upd a 6 0 j = a j := fun j hj => upd_n hj
  have hnm := ob_names h1
  refine ⟨OB_set h1 (by decide), WO_eq h2 (fun j hj => vz_cur_upd (fun j hj => ?_) j (by omega)), fun n hn => ?_, ?_, fun f hf => ?_, fun i hi => ?_, fun i hi => ?_, fun i hi => ?_⟩
  · split
    · omega
    · split <;> omega
  · rw [u 0 (by omega)] at hn
    rw [u _ (by omega)]
    exact h3 n hn
  · rw [u 3 (by omega), u 2 (by omega)]
    exact h4
  · rw [u _ (by omega), u 0 (by omega), u 1 (by omega)]
    refine ⟨(h5 f hf).1, (h5 f hf).2.1, fun g hg => ?_⟩
    rw [u _ (by omega)]
    exact (h5 f hf).2.2 g hg
  · rw [upd_e] at hi
    have : (0 : Int32).toInt = 0 := rfl
    omega
  · rw [u 4 (by omega)] at hi
    have := ob_count h1
    rw [u (142 + 54 * i) (by omega), u (142 + 54 * i + 1) (by omega), u 0 (by omega), u 1 (by omega)]
    exact ⟨WO_eq (h7 i hi).1 (fun j hj => u _ (by omega)), (h7 i hi).2⟩
  · rw [u (117 + i) (by omega)]
    exact h8 i hi
theorem c_said (n l : Int32) : BOTH (fun μ => fX11_said μ n l) (fun μ => fX12_said μ n l) := by
  intro μc μm h
  have hV := h.1
  have hO := hV.2.2.2
  dsimp only
  obtain ⟨F, hF, hF5, hF2⟩ := nz_of (v := μm.1 402 6) (k := 9) (ob_saidCount hO.1).1 (by have := (ob_saidCount hO.1).2; omega)
  have hFc : μc.1 1 17 = nI F := by rw [v1_saidCount hV.1]; exact hF
  unfold fX11_said fX12_said
  by_cases hs1 : n = -1
  · rw [if_pos hs1, if_pos hs1]
    refine ⟨0, _, _, rfl, rfl, RR_of h ((EC.rfl' _).wi (by omega)) ((EM.rfl' _).wi (by omega)) ?_ ?_⟩
    · rw [wi_u]
      exact VV_w hV (k := 6) (by omega) (by omega) rfl rfl (OA_6 hO)
    · simp (disch := omega) only [wi_i]
  rw [if_neg hs1, if_neg hs1, q_nameC hV.1 hO.1, q_nameM hO.1, q_isIn, q_ite, q_ite, q_ite]
  simp only [i_lt (a := l), i_lt (b := l), show (-99 : Int32).toInt = -99 from rfl, show (99 : Int32).toInt = 99 from rfl, hFc, hF]
  by_cases hn : 0 ≤ n.toInt ∧ n.toInt < (μm.1 402 0).toInt
  · rw [if_pos hn, if_pos hn]
    by_cases hl : -99 ≤ l.toInt ∧ l.toInt ≤ 99
    · rw [if_neg (by omega), if_neg (by omega), if_pos hl, if_neg (show ¬ nI F < 0 from nI_pos (by omega))]
      by_cases h6 : F = 8
      · subst h6
        rw [if_neg (by decide), if_pos (by decide)]
        exact ⟨-2, μc, μm, rfl, rfl, h, FrC.rfl' _, FrM.rfl' _⟩
      · have hF5' : F < 8 := by omega
        rw [if_pos (by rw [lt_l (n := 8) (by omega) (by omega)]; exact hF5'), if_neg (by rw [eq_l (n := 8) (by omega) (by omega)]; exact h6)]
        simp (disch := omega) only [l_mul 2, l_add 126, add_l 1, go_let, cl_n, chk_n, wi_i, wi_e, wi_c, hF, hFc]
        refine ⟨_, _, _, rfl, rfl, RR_of h ?_ ?_ ?_ ?_⟩
        · exact (((EC.rfl' _).wi (by omega)).wi (by omega)).wi (by omega)
        · exact (((EM.rfl' _).wi (by omega)).wi (by omega)).wi (by omega)
        · simp only [wi_u]
          have w1 := VZ_w (v := n) hV.z (k := 126 + 2 * F) (by omega) (by omega) (vl_saidName F hF5')
          have w2 := VZ_w (v := l) w1 (k := 127 + 2 * F) (by omega) (by omega) (vl_saidMelts F hF5')
          have w3 := VZ_w (v := nI (F + 1)) w2 (k := 6) (by omega) (by omega) (show vz_loc 6 = (0, 17) from rfl)
          rw [show 126 + 2 * F + 1 = 127 + 2 * F by omega]
          refine w3.v (OA_said hO hF hF5' (upd_e _ _ _) ?_ hn ?_ hl (fun j q1 q2 q3 => ?_))
          · simp (disch := omega) only [upd_n, upd_e]
          · simp (disch := omega) only [upd_n, upd_e]
          · simp (disch := omega) only [upd_n]
        · simp (disch := omega) only [wi_i]
    · rw [if_neg (c := -99 ≤ l.toInt ∧ l.toInt ≤ 99) hl]
      refine ⟨-2, μc, μm, ?_, rfl, h, FrC.rfl' _, FrM.rfl' _⟩
      by_cases hl0 : l.toInt < -99
      · rw [if_pos hl0]
      · rw [if_neg hl0, if_pos (by omega)]
  · rw [if_neg hn, if_neg hn]
    exact ⟨-2, μc, μm, rfl, rfl, h, FrC.rfl' _, FrM.rfl' _⟩
theorem q_like (f n w : Int32) : fX11_couldLike f n w = if (0 ≤ f.toInt ∧ f.toInt ≤ 4) ∧ (0 ≤ n.toInt ∧ n.toInt ≤ 5) ∧ (0 ≤ w.toInt ∧ w.toInt ≤ 99) then 1 else 0 := by
  unfold fX11_couldLike
  simp only [i_lt, i_le, show (0 : Int32).toInt = 0 from rfl, show (5 : Int32).toInt = 5 from rfl, show (6 : Int32).toInt = 6 from rfl, show (99 : Int32).toInt = 99 from rfl]
  repeat' split
  all_goals first | rfl | (exfalso; omega)
theorem q_pair (f n : Int32) : fX12_isPair f n = if (0 ≤ f.toInt ∧ f.toInt ≤ 4) ∧ (0 ≤ n.toInt ∧ n.toInt ≤ 5) then 1 else 0 := by
  unfold fX12_isPair
  rw [q_isIn, q_isIn, q_ite, q_ite]
  simp only [show (0 : Int32).toInt = 0 from rfl, show (4 : Int32).toInt = 4 from rfl, show (5 : Int32).toInt = 5 from rfl]
  repeat' split
  all_goals first | rfl | (exfalso; omega)
theorem c_wants (f n w : Int32) : BOTH (fun μ => fX11_wants μ f n w) (fun μ => fX12_wants μ f n w) := by
  intro μc μm h
  have hV := h.1
  have hO := hV.2.2.2
  dsimp only
  unfold fX11_wants fX12_wants
  rw [q_like, q_pair, q_isIn, q_ite, q_ite, q_ite]
  simp only [show (0 : Int32).toInt = 0 from rfl, show (99 : Int32).toInt = 99 from rfl]
  by_cases h1 : (0 ≤ f.toInt ∧ f.toInt ≤ 4) ∧ (0 ≤ n.toInt ∧ n.toInt ≤ 5)
  · by_cases h2 : 0 ≤ w.toInt ∧ w.toInt ≤ 99
    · rw [if_pos ⟨h1.1, h1.2, h2⟩, if_pos h1, if_pos h2]
      obtain ⟨F, rfl, hF, -⟩ := nz_of (v := f) (k := 5) h1.1.1 (by omega)
      obtain ⟨N, rfl, hN, -⟩ := nz_of (v := n) (k := 6) h1.2.1 (by omega)
      simp (disch := omega) only [l_mul 6, mul_l 6, l_add 52, nI_add, go_let, cl_n, chk_n]
      refine ⟨_, _, _, rfl, rfl, RR_of h ((EC.rfl' _).wi (by omega)) ((EM.rfl' _).wi (by omega)) ?_ ?_⟩
      · rw [wi_u, show 52 + 6 * F + N = 52 + (F * 6 + N) by omega]
        refine (VZ_w (v := w) hV.z (k := 52 + (F * 6 + N)) (by omega) (by omega) (vl_want _ (by omega))).v (OA_free hO (by omega) ?_)
        rw [(vb_want (F * 6 + N) (by omega)).1, (vb_want (F * 6 + N) (by omega)).2]
        exact h2
      · simp (disch := omega) only [wi_i]
    · rw [if_neg (fun q => h2 q.2.2), if_pos h1, if_neg h2]
      exact ⟨0, μc, μm, rfl, rfl, h, FrC.rfl' _, FrM.rfl' _⟩
  · rw [if_neg (fun q => h1 ⟨q.1, q.2.1⟩), if_neg h1]
    exact ⟨0, μc, μm, rfl, rfl, h, FrC.rfl' _, FrM.rfl' _⟩
theorem c_favours (n f w : Int32) : BOTH (fun μ => fX11_favours μ n f w) (fun μ => fX12_favours μ n f w) := by
  intro μc μm h
  have hV := h.1
  have hO := hV.2.2.2
  dsimp only
  unfold fX11_favours fX12_favours
  rw [q_like, q_pair, q_isIn, q_ite, q_ite, q_ite]
  simp only [show (0 : Int32).toInt = 0 from rfl, show (99 : Int32).toInt = 99 from rfl]
  by_cases h1 : (0 ≤ f.toInt ∧ f.toInt ≤ 4) ∧ (0 ≤ n.toInt ∧ n.toInt ≤ 5)
  · by_cases h2 : 0 ≤ w.toInt ∧ w.toInt ≤ 99
    · rw [if_pos ⟨h1.1, h1.2, h2⟩, if_pos h1, if_pos h2]
      obtain ⟨F, rfl, hF, -⟩ := nz_of (v := f) (k := 5) h1.1.1 (by omega)
      obtain ⟨N, rfl, hN, -⟩ := nz_of (v := n) (k := 6) h1.2.1 (by omega)
      simp (disch := omega) only [l_mul 5, mul_l 5, l_add 82, nI_add, go_let, cl_n, chk_n]
      refine ⟨_, _, _, rfl, rfl, RR_of h ((EC.rfl' _).wi (by omega)) ((EM.rfl' _).wi (by omega)) ?_ ?_⟩
      · rw [wi_u, show 82 + 5 * N + F = 82 + (N * 5 + F) by omega]
        refine (VZ_w (v := w) hV.z (k := 82 + (N * 5 + F)) (by omega) (by omega) (vl_favour _ (by omega))).v (OA_free hO (by omega) ?_)
        rw [(vb_favour (N * 5 + F) (by omega)).1, (vb_favour (N * 5 + F) (by omega)).2]
        exact h2
      · simp (disch := omega) only [wi_i]
    · rw [if_neg (fun q => h2 q.2.2), if_pos h1, if_neg h2]
      exact ⟨0, μc, μm, rfl, rfl, h, FrC.rfl' _, FrM.rfl' _⟩
  · rw [if_neg (fun q => h1 ⟨q.1, q.2.1⟩), if_neg h1]
    exact ⟨0, μc, μm, rfl, rfl, h, FrC.rfl' _, FrM.rfl' _⟩
