/-! ===== foretold, played, springs ===== -/
theorem ft_idle {a1 a2 : Int32} {n : Nat} (hn : n ≤ 60) : ∀ r i μ fuel, i + r = n → 9999 ≤ (μ.1 402 7).toInt → r < fuel → lp (fun s : Int32 × PM => lbX12_foretold_69 (nI n) a1 a2 s.1 s.2) fuel (nI i, μ) = some (.inl μ) := by
  intro r
  induction r with
  | zero =>
    intro i μ fuel hi h6 hf
    obtain ⟨k, rfl⟩ : ∃ k, fuel = k + 1 := ⟨fuel - 1, by omega⟩
    refine lp_e ?_
    show lbX12_foretold_69 (nI n) a1 a2 (nI i) μ = _
    unfold lbX12_foretold_69
    rw [if_pos (by rw [le_n (by omega) (by omega)]; omega)]
  | succ r ih =>
    intro i μ fuel hi h6 hf
    obtain ⟨k, rfl⟩ : ∃ k, fuel = k + 1 := ⟨fuel - 1, by omega⟩
    have hs : lbX12_foretold_69 (nI n) a1 a2 (nI i) μ = some (.inl (nI (i + 1), μ)) := by
      unfold lbX12_foretold_69
      rw [if_neg (by rw [le_n (by omega) (by omega)]; omega), if_pos (by rw [i_le]; exact h6), add_l 1]
    rw [lp_l (s' := (nI (i + 1), μ)) hs]
    exact ih (i + 1) μ k (by omega) h6 (by omega)
theorem ft_loop {a0 a1 a2 : Int32} {tx : Option Nat} {M n x : Nat} (hMn : M ≤ n) (hn : n ≤ 60) (hx : x + M ≤ 9999) (hl : M < n → x + M = 9999) : ∀ r i μc μm fuel fuel', i + r = M → PH false true 337 μc μm → TA μm tx (μm.1 402 3) → μm.1 402 7 = nI (x + i) → r < fuel → n < fuel' + i →
    ∃ μc' μm', lp (fun s : Int32 × PM => lbX11_foretold_75 a0 a1 a2 tx (nI M) s.1 s.2) fuel (nI i, μc) = some (.inl μc') ∧ lp (fun s : Int32 × PM => lbX12_foretold_69 (nI n) a1 a2 s.1 s.2) fuel' (nI i, μm) = some (.inl μm') ∧ PH false true 337 μc' μm' ∧ HC 337 μc μc' ∧ HM 7 false μm μm' := by
  intro r
  induction r with
  | zero =>
    intro i μc μm fuel fuel' hi hP hT h7 hf hf'
    obtain ⟨k, rfl⟩ : ∃ k, fuel = k + 1 := ⟨fuel - 1, by omega⟩
    refine ⟨μc, μm, lp_e ?_, ?_, hP, HC.rfl' _ _, HM.rfl' _ _ _⟩
    · show lbX11_foretold_75 a0 a1 a2 tx (nI M) (nI i) μc = _
      unfold lbX11_foretold_75
      rw [if_pos (by rw [le_n (by omega) (by omega)]; omega)]
    · by_cases e : M < n
      · have hxx := hl e
        exact ft_idle hn (n - i) i μm fuel' (by omega) (by rw [h7, ti_n (by omega)]; omega) (by omega)
      · obtain ⟨k', rfl⟩ : ∃ k, fuel' = k + 1 := ⟨fuel' - 1, by omega⟩
        refine lp_e ?_
        show lbX12_foretold_69 (nI n) a1 a2 (nI i) μm = _
        unfold lbX12_foretold_69
        rw [if_pos (by rw [le_n (by omega) (by omega)]; omega)]
  | succ r ih =>
    intro i μc μm fuel fuel' hi hP hT h7 hf hf'
    obtain ⟨k, rfl⟩ : ∃ k, fuel = k + 1 := ⟨fuel - 1, by omega⟩
    obtain ⟨k', rfl⟩ : ∃ k, fuel' = k + 1 := ⟨fuel' - 1, by omega⟩
    obtain ⟨c, μ1, μ2, g1, g2, g3, g4, g5, g6, g7⟩ := ph_pass hP (Or.inr rfl) hT (by rw [h7, ti_n (by omega)]; omega)
    have sC : lbX11_foretold_75 a0 a1 a2 tx (nI M) (nI i) μc = some (.inl (nI (i + 1), μ1)) := by
      unfold lbX11_foretold_75
      rw [if_neg (by rw [le_n (by omega) (by omega)]; omega), g1, Option.bind_some, add_l 1]
    have sM : lbX12_foretold_69 (nI n) a1 a2 (nI i) μm = some (.inl (nI (i + 1), μ2)) := by
      unfold lbX12_foretold_69
      rw [if_neg (by rw [le_n (by omega) (by omega)]; omega), h7, if_neg (by rw [l_le (n := 9999) (by omega) (by omega)]; omega), g2, Option.bind_some, add_l 1]
    rw [lp_l (s' := (nI (i + 1), μ1)) sC, lp_l (s' := (nI (i + 1), μ2)) sM]
    obtain ⟨μ3, μ4, w1, w2, w3, w4, w5⟩ := ih (i + 1) μ1 μ2 k k' (by omega) g3 (TA_hm hT g5 (by omega)) (by rw [g7, h7, add_l 1]; rfl) (by omega) (by omega)
    exact ⟨μ3, μ4, w1, w2, w3, g4.tr w4, g5.tr w5⟩
theorem c_foretold (n w v : Int32) : BOTH (fun μ => fX11_foretold μ n w v) (fun μ => fX12_foretold μ n w v) := by
  intro μc μm h
  have hV := h.1
  have hP := RR_ph h
  have hO := ph_ob hP
  have hnb := ob_names hO
  have hhb := ob_hour hO
  dsimp only
  unfold fX11_foretold fX12_foretold
  rw [q_isIn, q_ite, q_nameC hV.1 hO, q_nameM hO, q_ite, q_ite, q_isIn, q_ite]
  simp only [i_lt, i_le, show (0 : Int32).toInt = 0 from rfl, show (1 : Int32).toInt = 1 from rfl, show (60 : Int32).toInt = 60 from rfl]
  by_cases hn : 1 ≤ n.toInt ∧ n.toInt ≤ 60
  case neg =>
    rw [if_neg hn]
    refine ⟨-2, μc, μm, ?_, rfl, h, FrC.rfl' _, FrM.rfl' _⟩
    by_cases h1 : n.toInt < 1
    · rw [if_pos h1]
    · rw [if_neg h1, if_pos (by omega)]
  rw [if_neg (by omega), if_neg (by omega), if_pos hn]
  by_cases hw : 0 ≤ w.toInt ∧ w.toInt < (μm.1 402 0).toInt
  case neg =>
    rw [if_neg hw, if_neg hw]
    exact ⟨-2, μc, μm, rfl, rfl, h, FrC.rfl' _, FrM.rfl' _⟩
  rw [if_pos hw, if_pos hw]
  by_cases hv : 0 ≤ v.toInt ∧ v.toInt ≤ 1
  case neg =>
    rw [if_neg hv]
    refine ⟨-2, μc, μm, ?_, rfl, h, FrC.rfl' _, FrM.rfl' _⟩
    by_cases h1 : v.toInt < 0
    · rw [if_pos h1]
    · rw [if_neg h1, if_neg (by omega)]
  rw [if_neg (by omega), if_pos (by omega), if_pos hv]
  obtain ⟨k, rfl, hk, -⟩ := nz_of (v := w) (k := 6) hw.1 (by omega)
  have hk6 : k < 6 := by omega
  obtain ⟨m, rfl, hm, hm2⟩ := nz_of (v := n) (k := 61) (by omega) (by omega)
  obtain ⟨x, ex, hx, hx2⟩ := nz_of (v := μm.1 402 7) (k := 10000) hhb.1 (by omega)
  -- aside
  have la := lp_cnt (f := fun s : Int32 × PM => lbX12_foretold_34 (nI m) (nI k) v s.1 s.2) (fun i => (nI i, pm_cp μm 402 410 7 7 (i - 7))) 7 29 (.inl (pm_cp μm 402 410 7 7 22)) (fun i h1 h2 => by
    show lbX12_foretold_34 (nI m) (nI k) v (nI i) (pm_cp μm 402 410 7 7 (i - 7)) = _
    unfold lbX12_foretold_34
    simp only [go_let]
    rw [if_neg (by rw [l_le (n := 29) (by omega) (by omega)]; omega), chk_n (by omega) (by omega), chk_n (by omega) (by omega), cl_n (by omega), add_l 1]
    have := cp_suc (μ := μm) (a := 402) (b := 410) (sp := 7) (dp := 7) (n := i - 7) (by omega)
    rw [show 7 + (i - 7) = i by omega, show i - 7 + 1 = i + 1 - 7 by omega] at this
    rw [this]) (by
    show lbX12_foretold_34 (nI m) (nI k) v (nI 29) _ = _
    unfold lbX12_foretold_34
    rw [if_pos (by decide)]) go_fuel 7 (by omega) (by omega) (by unfold go_fuel; omega)
  have la' : lp (fun s : Int32 × PM => lbX12_foretold_34 (nI m) (nI k) v s.1 s.2) go_fuel (7, μm) = some (.inl (pm_cp μm 402 410 7 7 22)) := by
    have e : pm_cp μm 402 410 7 7 (7 - 7) = μm := cp_0 μm 402 410 7 7
    rw [e] at la
    exact la
  rw [la', Option.bind_some]
  dsimp only [go_cs, go_let]
  have hPm : PH false true 337 (fX10_become μc 337 12) (pm_wi (pm_cp μm 402 410 7 7 22) 401 23 0) := by
    have hW : WR (fX10_become μc 337 12) 337 (vz_cur (μm.1 402)) := bc_W (vz_curW (q := 1) hV.1 hV.2.1) (by omega)
    have r402 : (pm_wi (pm_cp μm 402 410 7 7 22) 401 23 0).1 402 = μm.1 402 := by rw [wi_c (by omega), cp_c (by omega)]
    have hb4 : (fX10_become μc 337 12).1 337 4 = μm.1 402 11 := hW.1 6 (by decide)
    unfold PH
    rw [r402]
    refine ⟨fun j hj _ _ => hW.1 j hj, by rw [hb4]; exact ob_written hO, fun q => absurd q (by decide), fun k hk hk2 => ?_, hP.2.2.2.2.1, wi_e, fun t ht h4 => TXR_eq (hP.2.2.2.2.2.2 t ht h4) (fun c h1 h2 => bc_c (by omega)) (by rw [wi_c (by omega), cp_c (by omega)]) h4⟩
    have := vs_le k hk hk2
    rw [bc_c (by omega)]
    exact hP.2.2.2.1 k hk hk2
  have r402 : (pm_wi (pm_cp μm 402 410 7 7 22) 401 23 0).1 402 = μm.1 402 := by rw [wi_c (by omega), cp_c (by omega)]
  have a410 : ∀ j, 7 ≤ j → j < 29 → (pm_wi (pm_cp μm 402 410 7 7 22) 401 23 0).1 410 j = μm.1 402 j := fun j h1 h2 => by
    rw [wi_c (by omega), cp_in h1 (by omega), show 7 + (j - 7) = j by omega]
  have hfr : ∀ c, c ≠ 401 → c ≠ 410 → (pm_wi (pm_cp μm 402 410 7 7 22) 401 23 0).1 c = μm.1 c := fun c h1 h2 => by rw [wi_c h1, cp_c h2]
  have hfr1 : ∀ i, i ≠ 23 → (pm_wi (pm_cp μm 402 410 7 7 22) 401 23 0).1 401 i = μm.1 401 i := fun i hi => by rw [wi_i hi, cp_c (by omega)]
  have hbc : ∀ c, c < 337 ∨ 341 < c → (fX10_become μc 337 12).1 c = μc.1 c := fun c hc => bc_c (by omega)
  have hbc2 := bc_2' μc 337 12
  generalize fX10_become μc 337 12 = ν at hPm hbc hbc2 ⊢
  generalize pm_wi (pm_cp μm 402 410 7 7 22) 401 23 0 = ω at hPm r402 a410 hfr hfr1 ⊢
  obtain ⟨tx, f1, f2⟩ := ph_find hPm
  rw [f1, Option.bind_some, hbc 12 (by omega), v1_hour hV.1, ex, l_sub (n := 9999) (by omega)]
  obtain ⟨M, hM1, hM2, hM3, hM4⟩ : ∃ M, jmin (nI m) (nI (9999 - x)) = nI M ∧ M ≤ m ∧ x + M ≤ 9999 ∧ (M < m → x + M = 9999) := by
    unfold jmin
    have hj : nI (9999 - x) < nI m ↔ 9999 - x < m := lt_n (by omega) (by omega)
    by_cases q : 9999 - x < m
    · exact ⟨9999 - x, by rw [if_pos (hj.mpr q)], by omega, by omega, by omega⟩
    · exact ⟨m, by rw [if_neg (fun z => q (hj.mp z))], by omega, by omega, by omega⟩
  obtain ⟨μ1, μ2, w1, w2, w3, w4, w5⟩ := ft_loop (a0 := nI m) (a1 := nI k) (a2 := v) (tx := tx) hM2 (by omega) hM3 hM4 M 0 ν ω go_fuel go_fuel (by omega) hPm f2 (by rw [r402]; exact ex) (by unfold go_fuel; omega) (by unfold go_fuel; omega)
  rw [hM1, show (0 : Int32) = nI 0 from rfl, w1, w2, Option.bind_some, Option.bind_some]
  dsimp only [go_cs]
  -- back again
  have lb : ∀ q10, lp (fun s : Int32 × PM => lbX12_foretold_118 (nI m) (nI k) v q10 s.1 s.2) go_fuel (7, μ2) = some (q10, pm_wi (pm_cp μ2 410 402 7 7 22) 401 23 1) := fun q10 => by
    have lb := lp_cnt (f := fun s : Int32 × PM => lbX12_foretold_118 (nI m) (nI k) v q10 s.1 s.2) (fun i => (nI i, pm_cp μ2 410 402 7 7 (i - 7))) 7 29 (q10, pm_wi (pm_cp μ2 410 402 7 7 22) 401 23 1) (fun i h1 h2 => by
      show lbX12_foretold_118 (nI m) (nI k) v q10 (nI i) (pm_cp μ2 410 402 7 7 (i - 7)) = _
      unfold lbX12_foretold_118
      simp only [go_let]
      rw [if_neg (by rw [l_le (n := 29) (by omega) (by omega)]; omega), chk_n (by omega) (by omega), chk_n (by omega) (by omega), cl_n (by omega), add_l 1]
      have := cp_suc (μ := μ2) (a := 410) (b := 402) (sp := 7) (dp := 7) (n := i - 7) (by omega)
      rw [show 7 + (i - 7) = i by omega, show i - 7 + 1 = i + 1 - 7 by omega] at this
      rw [this]) (by
      show lbX12_foretold_118 (nI m) (nI k) v q10 (nI 29) _ = _
      unfold lbX12_foretold_118
      rw [if_pos (by decide)]
      rfl) go_fuel 7 (by omega) (by omega) (by unfold go_fuel; omega)
    have e : pm_cp μ2 410 402 7 7 (7 - 7) = μ2 := cp_0 μ2 410 402 7 7
    rw [e] at lb
    exact lb
  have e402 : (pm_wi (pm_cp μ2 410 402 7 7 22) 401 23 1).1 402 = μm.1 402 := by
    funext j
    rw [wi_c (by omega)]
    by_cases hj : 7 ≤ j ∧ j < 29
    · rw [cp_in hj.1 (by omega), show 7 + (j - 7) = j by omega, w5.1 410 (by omega) (by omega) (by omega) (by omega), a410 j hj.1 hj.2]
    · have hj2 : j < 7 ∨ (29 ≤ j ∧ (false = true → j < 1762)) := by
        by_cases q : j < 7
        · exact Or.inl q
        · exact Or.inr ⟨by omega, fun z => absurd z (by decide)⟩
      rw [cp_out (by omega), w5.2.2 j hj2, r402]
  have hEC : EC μc μ1 := ⟨by rw [w4.1 0 (by omega) (by omega) (by omega), hbc 0 (by omega)], fun c h1 h2 => by rw [w4.1 c (by omega) (by omega) (by omega), hbc c (by omega)], fun c h1 h2 => by rw [w4.1 c (by omega) (by omega) (by omega), hbc c (by omega)], fun c h1 => by rw [w4.1 c (by omega) (by omega) (by omega), hbc c (by omega)], w4.2.trans hbc2⟩
  have e401 : ∀ i, i ≠ 23 → i ≠ 24 → (pm_wi (pm_cp μ2 410 402 7 7 22) 401 23 1).1 401 i = μm.1 401 i := fun i h1 h2 => by rw [wi_i h1, cp_c (by omega), w5.2.1 i h2, hfr1 i h1]
  have eoth : ∀ c, c ≠ 401 → c ≠ 402 → c ≠ 407 → c ≠ 409 → c ≠ 410 → (pm_wi (pm_cp μ2 410 402 7 7 22) 401 23 1).1 c = μm.1 c := fun c h1 h2 h3 h4 h5 => by rw [wi_c h1, cp_c h2, w5.1 c h1 h2 h3 h4, hfr c h1 h5]
  have hEM : EM μm (pm_wi (pm_cp μ2 410 402 7 7 22) 401 23 1) := ⟨⟨e401 4 (by omega) (by omega), e401 5 (by omega) (by omega), e401 6 (by omega) (by omega), by rw [wi_e]; exact h.2.2.2.2.1.symm⟩, eoth 403 (by omega) (by omega) (by omega) (by omega) (by omega), eoth 404 (by omega) (by omega) (by omega) (by omega) (by omega), eoth 405 (by omega) (by omega) (by omega) (by omega) (by omega), fun c hc => eoth c (by omega) (by omega) (by omega) (by omega) (by omega)⟩
  have hfin := RR_of h hEC hEM (by rw [e402]; exact VV_eq hV (fun c h1 h2 => by rw [w4.1 c (by omega) (by omega) (by omega), hbc c (by omega)])) (by rw [e402])
  unfold jjX12_foretold_109
  by_cases v0 : v = nI 0
  · rw [if_pos v0, if_pos v0, chk_n hk6 (by omega), cl_n (by omega), show (nI 0 : Int32) = 0 from rfl, (q_getM hk6).1, Option.bind_some, lb, Option.bind_some, ph_place w3 hk6]
    exact ⟨_, _, _, rfl, rfl, hfin⟩
  · rw [if_neg v0, if_neg v0, chk_n hk6 (by omega), cl_n (by omega), (q_getM hk6).2, Option.bind_some, lb, Option.bind_some, ph_size w3 hk6]
    exact ⟨_, _, _, rfl, rfl, hfin⟩
