/-! ===== a place of the row as it stands now is written ===== -/
theorem OA_w {a : Nat → Int32} {k : Nat} {v : Int32} (h : OA a) (hk : 7 ≤ k ∧ k < 29) (hv : vz_lo k ≤ v.toInt ∧ v.toInt ≤ vz_hi k) (hp : ∀ n, n < 6 → k = 12 + 2 * n → v.toInt ≤ 10 ∨ 20 ≤ v.toInt) (hz : ∀ n, n < 6 → k = 13 + 2 * n → 1 ≤ v.toInt ∨ (a 0).toInt ≤ n) : OA (upd a k v) := by
  obtain ⟨h1, h2, h3, h4, h5, h6, h7, h8⟩ := h
  have u : ∀ j, j ≠ k → upd a k v j = a j := fun j hj => upd_n hj
  have hnm := ob_names h1
  have hsc := ob_saidCount h1
  refine ⟨OB_set h1 hv, ⟨fun j hj => ?_, fun n hn => ?_, fun n hn hn6 => ?_⟩, fun n hn => ?_, ?_, fun f hf => ?_, fun i hi => ?_, fun i hi => ?_, fun i hi => ?_⟩
  · have := h2.1 j hj
    rw [vz_cur_lo hj] at this ⊢
    by_cases e : (if j < 2 then j else 5 + j) = k
    · rw [e, upd_e]; exact hv
    · rw [u _ e]; exact this
  · have := h2.2.1 n hn
    rw [vz_cur_lo (by omega), if_neg (by omega)] at this ⊢
    by_cases e : 5 + (7 + 2 * n) = k
    · rw [e, upd_e]; exact hp n hn (by omega)
    · rw [u _ e]; exact this
  · have hn' : (n : Int) < (a 0).toInt := by
      have e : vz_cur (upd a k v) 0 = a 0 := u 0 (by omega)
      rw [e] at hn; exact hn
    have := h2.2.2 n hn' hn6
    rw [vz_cur_lo (by omega), if_neg (by omega)] at this ⊢
    by_cases e : 5 + (8 + 2 * n) = k
    · rw [e, upd_e]
      rcases hz n hn6 (by omega) with q | q
      · exact q
      · omega
    · rw [u _ e]; exact this
  · rw [u 0 (by omega)] at hn
    rw [u _ (by omega)]
    exact h3 n hn
  · rw [u 3 (by omega), u 2 (by omega)]
    exact h4
  · rw [u (112 + f) (by omega), u 0 (by omega), u 1 (by omega)]
    refine ⟨(h5 f hf).1, (h5 f hf).2.1, fun g hg => ?_⟩
    rw [u _ (by omega)]
    exact (h5 f hf).2.2 g hg
  · rw [u 6 (by omega)] at hi
    rw [u _ (by omega), u 0 (by omega)]
    exact h6 i hi
  · rw [u 4 (by omega)] at hi
    have := ob_count h1
    rw [u (142 + 54 * i) (by omega), u (142 + 54 * i + 1) (by omega), u 0 (by omega), u 1 (by omega)]
    exact ⟨WO_eq (h7 i hi).1 (fun j hj => u _ (by omega)), (h7 i hi).2⟩
  · rw [u (117 + i) (by omega)]
    exact h8 i hi
theorem OA_place {a : Nat → Int32} {n : Nat} {v : Int32} (h : OA a) (hn : n < 6) (hv : (-1 ≤ v.toInt ∧ v.toInt ≤ 10) ∨ (20 ≤ v.toInt ∧ v.toInt ≤ 24)) : OA (upd a (12 + 2 * n) v) := by
  refine OA_w h (by omega) ?_ (fun _ _ _ => by omega) (fun _ _ _ => by omega)
  rw [(vb_place n hn).1, (vb_place n hn).2]
  omega
theorem VV_place {μ : PM} {a : Nat → Int32} {n : Nat} {v : Int32} (h : VV μ 1 a) (hn : n < 6) (hv : (-1 ≤ v.toInt ∧ v.toInt ≤ 10) ∨ (20 ≤ v.toInt ∧ v.toInt ≤ 24)) : VV (pm_wi μ 13 n v) 1 (upd a (12 + 2 * n) v) := (VZ_w (v := v) h.z (k := 12 + 2 * n) (by omega) (by omega) (vl_place n hn)).v (OA_place h.2.2.2 hn hv)
theorem q_frozenC {μ : PM} {a : Nat → Int32} (h : VF μ 1 a) (hb : OB a) (v : Int32) : fX10_isFrozen μ 12 v = some (if (0 ≤ v.toInt ∧ v.toInt < (a 0).toInt) ∧ a (12 + 2 * v.toNatClampNeg) = -1 then 1 else 0) := by
  have hn := ob_names hb
  unfold fX10_isFrozen
  rw [v1_names h]
  simp only [i_lt (a := v), i_le (b := v), show (0 : Int32).toInt = 0 from rfl, show (6 : Int32).toInt = 6 from rfl]
  by_cases hv : 0 ≤ v.toInt ∧ v.toInt < (a 0).toInt
  · obtain ⟨n, rfl, hn6, hn2⟩ := nz_of (v := v) (k := 6) hv.1 (by omega)
    rw [if_neg (by omega), if_neg (by omega), if_neg (by omega)]
    simp (disch := omega) only [chk_n, cl_n]
    rw [show 12 + 1 = 13 from rfl, v1_place h (by omega)]
    by_cases hp : a (12 + 2 * n) = -1
    · rw [if_pos hp, if_pos ⟨hv, hp⟩]
    · rw [if_neg hp, if_neg (fun q => hp q.2)]
  · rw [if_neg (c := (0 ≤ v.toInt ∧ v.toInt < (a 0).toInt) ∧ _) (fun q => hv q.1)]
    by_cases h0 : v.toInt < 0
    · rw [if_pos h0]
    · rw [if_neg h0, if_pos (by omega)]
theorem q_claimC {μ : PM} {a : Nat → Int32} (h : VF μ 1 a) (hb : OB a) (v : Int32) : fX10_isClaimed μ 12 v = some (if (0 ≤ v.toInt ∧ v.toInt < (a 0).toInt) ∧ 20 ≤ (a (12 + 2 * v.toNatClampNeg)).toInt then 1 else 0) := by
  have hn := ob_names hb
  unfold fX10_isClaimed
  rw [v1_names h]
  simp only [i_lt (a := v), i_le (b := v), show (0 : Int32).toInt = 0 from rfl, show (6 : Int32).toInt = 6 from rfl]
  by_cases hv : 0 ≤ v.toInt ∧ v.toInt < (a 0).toInt
  · obtain ⟨n, rfl, hn6, hn2⟩ := nz_of (v := v) (k := 6) hv.1 (by omega)
    rw [if_neg (by omega), if_neg (by omega), if_neg (by omega)]
    simp (disch := omega) only [chk_n, cl_n]
    rw [show 12 + 1 = 13 from rfl, v1_place h (by omega)]
    simp only [i_lt (b := 20), show (20 : Int32).toInt = 20 from rfl]
    by_cases hp : 20 ≤ (a (12 + 2 * n)).toInt
    · rw [if_neg (by omega), if_pos ⟨hv, hp⟩]
    · rw [if_pos (by omega), if_neg (fun q => hp q.2)]
  · rw [if_neg (c := (0 ≤ v.toInt ∧ v.toInt < (a 0).toInt) ∧ _) (fun q => hv q.1)]
    by_cases h0 : v.toInt < 0
    · rw [if_pos h0]
    · rw [if_neg h0, if_pos (by omega)]
theorem q_withM {μ : PM} (hb : OB (μ.1 402)) (v : Int32) : fX12_isWith μ v = some (if (0 ≤ v.toInt ∧ v.toInt < (μ.1 402 0).toInt) ∧ 20 ≤ (μ.1 402 (12 + 2 * v.toNatClampNeg)).toInt then 1 else 0) := by
  unfold fX12_isWith fX12_get
  rw [q_nameM hb, q_ite]
  have := ob_names hb
  by_cases h : 0 ≤ v.toInt ∧ v.toInt < (μ.1 402 0).toInt
  · rw [if_pos h]
    obtain ⟨n, rfl, hn, -⟩ := nz_of (v := v) (k := 6) h.1 (by omega)
    simp (disch := omega) only [l_mul 2, l_add 12, add_l 0, Nat.add_zero, chk_n, cl_n, Option.bind_some]
    simp only [i_lt (b := 20), show (20 : Int32).toInt = 20 from rfl]
    by_cases hp : 20 ≤ (μ.1 402 (12 + 2 * n)).toInt
    · rw [if_neg (by omega), if_pos ⟨h, hp⟩]
    · rw [if_pos (by omega), if_neg (fun q => hp q.2)]
  · rw [if_neg h, if_neg (fun q => h q.1)]
theorem q_some01 {c : Prop} [Decidable c] {α : Type} {A B : Option α} : ((some (if c then (1 : Int32) else 0)).bind fun q => if q = 0 then A else B) = if c then B else A := by
  rw [Option.bind_some, q_ite]
theorem c_put0 {μc μm : PM} (h : RR μc μm) {n : Nat} (hn : n < 6) : ∃ r μc' μm', ((fX7_keep μc 17 12).bind fun q2 => go_chk (nI n) 6 <| go_let (pm_wi q2 13 (nI n).toNatClampNeg 0) fun μ3 => some (((1 : Int32), μ3))) = some (r, μc') ∧ ((fX12_keep μm).bind fun q2 => (fX12_put q2 (nI n) 0 0).bind fun q3 => some (((1 : Int32), q3))) = some (r, μm') ∧ RR μc' μm' ∧ FrC μc μc' ∧ FrM μm μm' := by
  obtain ⟨μc', μm', k1, k2, k3, k4, k5, k6⟩ := kp_both h.1
  rw [k1, k2, Option.bind_some, Option.bind_some]
  unfold fX12_put
  simp (disch := omega) only [l_mul 2, l_add 12, add_l 0, Nat.add_zero, chk_n, cl_n, Option.bind_some, go_let]
  refine ⟨_, _, _, rfl, rfl, RR_of h (k4.wi (by omega)) (k5.wi (by omega)) ?_ ?_⟩
  · rw [wi_u]
    exact VV_place k3 hn (Or.inl (by decide))
  · rw [wi_i (by omega)]
    exact k6 2 (by omega) (by omega)
theorem c_call (b : Int32) : BOTH (fun μ => fX11_call μ b) (fun μ => fX12_call μ b) := by
  intro μc μm h
  have hV := h.1
  have hO := hV.2.2.2.1
  have hn := ob_names hO
  dsimp only
  unfold fX11_call fX12_call
  rw [q_frozenC hV.1 hO, q_iceM hO, q_some01, q_some01]
  by_cases hc : (0 ≤ b.toInt ∧ b.toInt < (μm.1 402 0).toInt) ∧ μm.1 402 (12 + 2 * b.toNatClampNeg) = -1
  · simp only [if_pos hc]
    obtain ⟨n, rfl, hn6, -⟩ := nz_of (v := b) (k := 6) hc.1.1 (by omega)
    exact c_put0 h (by omega)
  · simp only [if_neg hc]
    exact ⟨0, μc, μm, rfl, rfl, h, FrC.rfl' _, FrM.rfl' _⟩
theorem c_sink (b : Int32) : BOTH (fun μ => fX11_sink μ b) (fun μ => fX12_sink μ b) := by
  intro μc μm h
  have hV := h.1
  have hO := hV.2.2.2.1
  have hn := ob_names hO
  dsimp only
  unfold fX11_sink fX12_sink
  rw [q_claimC hV.1 hO, q_withM hO, q_some01, q_some01]
  by_cases hc : (0 ≤ b.toInt ∧ b.toInt < (μm.1 402 0).toInt) ∧ 20 ≤ (μm.1 402 (12 + 2 * b.toNatClampNeg)).toInt
  · simp only [if_pos hc]
    obtain ⟨n, rfl, hn6, -⟩ := nz_of (v := b) (k := 6) hc.1.1 (by omega)
    exact c_put0 h (by omega)
  · simp only [if_neg hc]
    exact ⟨0, μc, μm, rfl, rfl, h, FrC.rfl' _, FrM.rfl' _⟩
theorem c_stone (b l : Int32) : BOTH (fun μ => fX11_stone μ b l) (fun μ => fX12_stone μ b l) := by
  intro μc μm h
  have hV := h.1
  have hO := hV.2.2.2.1
  dsimp only
  unfold fX11_stone fX12_stone
  rw [q_cellC, q_cellM, q_ite, q_ite, bitE, v1_stones hV.1]
  by_cases hb : 0 ≤ b.toInt ∧ b.toInt ≤ 9
  case neg =>
    simp only [if_neg hb]
    exact ⟨0, μc, μm, rfl, rfl, h, FrC.rfl' _, FrM.rfl' _⟩
  simp only [if_pos hb]
  by_cases hs : fX12_has (μm.1 402 10) b = l
  · simp only [if_pos hs]
    exact ⟨0, μc, μm, rfl, rfl, h, FrC.rfl' _, FrM.rfl' _⟩
  simp only [if_neg hs]
  obtain ⟨μc', μm', k1, k2, k3, k4, k5, k6⟩ := kp_both hV
  rw [k1, k2, Option.bind_some, Option.bind_some]
  simp only [go_let]
  rw [v1_stones k3.1]
  refine ⟨_, _, _, rfl, rfl, RR_of h (k4.wi (by omega)) (k5.wi (by omega)) ?_ ?_⟩
  · rw [wi_u]
    refine VV_w k3 (k := 10) (by omega) (by omega) rfl rfl (OA_w k3.2.2.2 (by omega) ?_ (fun _ _ _ => by omega) (fun _ _ _ => by omega))
    exact (nb_cells (ob_stones k3.2.2.2.1) hb).2.2
  · rw [wi_i (by omega)]
    exact k6 2 (by omega) (by omega)
theorem c_stand (f b : Int32) : BOTH (fun μ => fX11_stand μ f b) (fun μ => fX12_stand μ f b) := by
  intro μc μm h
  have hV := h.1
  have hO := hV.2.2.2.1
  have hfb := ob_families hO
  dsimp only
  unfold fX11_stand fX12_stand
  rw [q_famC hV.1 hO, q_famM hO, q_cellC, q_cellM, q_ite, q_ite, q_ite, q_ite]
  by_cases hf : 0 ≤ f.toInt ∧ f.toInt < (μm.1 402 1).toInt
  case neg =>
    simp only [if_neg hf]
    exact ⟨0, μc, μm, rfl, rfl, h, FrC.rfl' _, FrM.rfl' _⟩
  simp only [if_pos hf]
  by_cases hb : 0 ≤ b.toInt ∧ b.toInt ≤ 9
  case neg =>
    simp only [if_neg hb]
    exact ⟨0, μc, μm, rfl, rfl, h, FrC.rfl' _, FrM.rfl' _⟩
  simp only [if_pos hb]
  obtain ⟨F, rfl, hF, -⟩ := nz_of (v := f) (k := 5) hf.1 (by omega)
  simp (disch := omega) only [l_add 24, chk_n, cl_n, go_let]
  rw [v1_stand hV.1 (by omega)]
  by_cases hs : μm.1 402 (24 + F) = b
  · simp only [if_pos hs]
    exact ⟨0, μc, μm, rfl, rfl, h, FrC.rfl' _, FrM.rfl' _⟩
  simp only [if_neg hs]
  obtain ⟨μc', μm', k1, k2, k3, k4, k5, k6⟩ := kp_both hV
  rw [k1, k2, Option.bind_some, Option.bind_some]
  refine ⟨_, _, _, rfl, rfl, RR_of h (k4.wi (by omega)) (k5.wi (by omega)) ?_ ?_⟩
  · rw [wi_u]
    refine (VZ_w (v := b) k3.z (k := 24 + F) (by omega) (by omega) (vl_stand F (by omega))).v (OA_w k3.2.2.2 (by omega) ?_ (fun _ _ _ => by omega) (fun _ _ _ => by omega))
    rw [(vb_stand F (by omega)).1, (vb_stand F (by omega)).2]
    exact hb
  · rw [wi_i (by omega)]
    exact k6 2 (by omega) (by omega)
