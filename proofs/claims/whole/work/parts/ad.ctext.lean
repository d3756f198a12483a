/-! ===== text ===== -/
theorem c_text {μc μm : PM} (h : RR μc μm) : ∃ r o μc' μm', fX11_text μc = some (r, o, μc') ∧ fX12_text μm = some (r, μm') ∧ RR μc' μm' ∧ FrC μc μc' ∧ FrM μm μm' ∧ ∀ x, o = some x → ∃ T, T < 4 ∧ x = 343 + 7 * T := by
  have hR := h
  obtain ⟨k1, k2, k3, k4, k5, k6⟩ := h
  have hO := k1.2.2.2.1
  have htb := ob_texts hO
  obtain ⟨T, eT, hT, hT2⟩ := nz_of (v := μm.1 402 2) (k := 5) htb.1 (by omega)
  have cT : μc.1 1 13 = nI T := (v1_texts k1.1).trans eT
  have q4 : nI T = 4 ↔ T = 4 := eq_l (n := 4) (by omega) (by omega)
  have l4 : nI T < 4 ↔ T < 4 := lt_l (n := 4) (by omega) (by omega)
  unfold fX11_text fX12_text
  simp only [go_let]
  rw [cT, eT, if_neg (nI_pos (show T < 2147483648 by omega))]
  by_cases c4 : T = 4
  · rw [if_pos (q4.mpr c4), if_neg (fun z => by have := l4.mp z; omega)]
    exact ⟨-1, none, μc, μm, rfl, rfl, hR, FrC.rfl' _, FrM.rfl' _, fun x hx => by cases hx⟩
  have hT4 : T < 4 := by omega
  have htx : 343 ≤ 343 + 7 * T ∧ 343 + 7 * T ≤ 364 := by omega
  rw [if_neg (fun z => c4 (q4.mp z)), if_pos (l4.mpr hT4), chk_n (show T < 4 by omega) (by omega), cl_n (show T < 2147483648 by omega)]
  obtain ⟨t1, t2, t3, t4, t5⟩ := id k4
  obtain ⟨n, en, hn1, hn2⟩ := nz_of (v := μm.1 401 4) (k := 301) t2.1 (by omega)
  have hby : ∀ k, k < 300 → μm.1 405 k = nI (μm.1 405 k).toNatClampNeg ∧ (μm.1 405 k).toNatClampNeg < 256 := fun k hk => by
    obtain ⟨w1, w2⟩ := t4 k hk
    have := ti_cl w1
    exact ⟨nI_cl w1, by omega⟩
  generalize hbb : (fun k => (μm.1 405 k).toNatClampNeg) = b
  have hbm : ∀ k, k < 300 → μm.1 405 k = nI (b k) ∧ b k < 256 := fun k hk => by rw [← hbb]; exact hby k hk
  have hbc : ∀ k, k < 300 → μc.1 371 k = nI (b k) ∧ b k < 256 := fun k hk => by rw [t3 k hk]; exact hbm k hk
  have TP : TPM μm b n := ⟨en, by omega, hbm⟩
  obtain ⟨μc0, m, a1, ⟨a2, a2b⟩, a3, a4, a5⟩ := q_intoC (T := T) htx hbc (show n ≤ 300 by omega)
  obtain ⟨μm0, b1, ⟨b2, b3, b4⟩, b5, b6, b7, b8, b9⟩ := q_intoM hT4 eT TP
  have J : TJ μc0 μm0 b n m T 0 0 0 0 [] := ⟨a3, Nat.le_refl _, a4, by omega, fun s hs => ⟨fun _ => Nat.zero_testBit s, fun _ => a5 s hs⟩, by omega, b5, b6, b7, Nat.le_refl _, b8, b9, ⟨fun k hk => absurd hk (Nat.not_lt_zero k), fun s hs => Or.inl ⟨a5 s hs, fun k hk => absurd hk (Nat.not_lt_zero k)⟩⟩⟩
  have hm := a3.1.1
  obtain ⟨μ1, μ2, e, g1, g2, g3, g4, g5, g6, g7, g8⟩ := tx_loop hT4 (nI n) m 0 0 0 0 [] μc0 μm0 go_fuel go_fuel (by omega) J (by unfold go_fuel; omega) (by unfold go_fuel; omega)
  have g1 : lp (fun s => lbX6_readInto_58 (343 + 7 * T) (nI n) s.1 s.2) go_fuel (0, μc0) = some μ1 := g1
  rw [t1, en, a1, g1, b1, g2, Option.bind_some, Option.bind_some, Option.bind_some, Option.bind_some]
  -- what both left as it was
  have C1 : ∀ c, c < 343 + 7 * T ∨ 343 + 7 * T + 6 < c → c < 372 ∨ 375 < c → μ1.1 c = μc.1 c := fun c x1 x2 => (g3.1 c (by omega) x1).trans (a2 c x1 x2)
  have C2 : μ1.2 = μc.2 := g3.2.trans a2b
  have M1 : ∀ c, c ≠ 401 → c ≠ 404 → c ≠ 406 → μ2.1 c = μm.1 c := fun c x1 x2 x3 => (g4.1 c x1 x2 x3).trans (b2 c x1 x2)
  have M2 : ∀ j, j ≤ 6 ∨ 20 ≤ j → μ2.1 401 j = μm.1 401 j := fun j hj => (g4.2.1 j (by omega)).trans (b3 j hj)
  have M3 : ∀ k, k < 681 * T ∨ 681 * T + 681 ≤ k → μ2.1 404 k = μm.1 404 k := fun k hk => (g4.2.2 k hk).trans (b4 k (by omega))
  unfold fX11_text_T
  simp only [go_let]
  have eq0 : nI e = 0 ↔ e = 0 := eq_l (n := 0) (by omega) (by omega)
  -- the class's end
  have x15 : (pm_wi (pm_wi (pm_wi μ1 0 13 0) 0 14 1) 0 15 ((pm_wi (pm_wi μ1 0 13 0) 0 14 1).1 372 8)) = pm_wi (pm_wi (pm_wi μ1 0 13 0) 0 14 1) 0 15 (nI e) := by rw [wi_c (by decide), wi_c (by decide), g6]
  rw [x15]
  have x16 : (pm_wi (pm_wi (pm_wi μ1 0 13 0) 0 14 1) 0 15 (nI e)).1 372 9 = μ1.1 372 9 := by rw [wi_c (by decide), wi_c (by decide), wi_c (by decide)]
  rw [x16]
  have y0 : (pm_wi (pm_wi (pm_wi (pm_wi μ1 0 13 0) 0 14 1) 0 15 (nI e)) 0 16 (μ1.1 372 9)).1 0 15 = nI e := by rw [wi_i (by decide), wi_e]
  have y1 : ∀ c, c ≠ 0 → (pm_wi (pm_wi (pm_wi (pm_wi μ1 0 13 0) 0 14 1) 0 15 (nI e)) 0 16 (μ1.1 372 9)).1 c = μ1.1 c := fun c hc => by rw [wi_c hc, wi_c hc, wi_c hc, wi_c hc]
  have y13 : (pm_wi (pm_wi (pm_wi (pm_wi μ1 0 13 0) 0 14 1) 0 15 (nI e)) 0 16 (μ1.1 372 9)).1 0 13 = 0 := by rw [wi_i (by decide), wi_i (by decide), wi_i (by decide), wi_e]
  have y14 : (pm_wi (pm_wi (pm_wi (pm_wi μ1 0 13 0) 0 14 1) 0 15 (nI e)) 0 16 (μ1.1 372 9)).1 0 14 = 1 := by rw [wi_i (by decide), wi_i (by decide), wi_e]
  have y16 : (pm_wi (pm_wi (pm_wi (pm_wi μ1 0 13 0) 0 14 1) 0 15 (nI e)) 0 16 (μ1.1 372 9)).1 0 16 = μ1.1 372 9 := wi_e
  have y2 : (pm_wi (pm_wi (pm_wi (pm_wi μ1 0 13 0) 0 14 1) 0 15 (nI e)) 0 16 (μ1.1 372 9)).2 = μ1.2 := rfl
  generalize pm_wi (pm_wi (pm_wi (pm_wi μ1 0 13 0) 0 14 1) 0 15 (nI e)) 0 16 (μ1.1 372 9) = ν at y0 y1 y13 y14 y16 y2 ⊢
  rw [y0]
  -- the reference's end
  have z5 : (pm_wi μ2 401 5 (nI e)).1 401 5 = nI e := wi_e
  rw [z5, show (pm_wi μ2 401 5 (nI e)).1 401 8 = μ2.1 401 8 from wi_i (by decide)]
  have frc : ∀ ν' : PM, (∀ c, 401 ≤ c → ν'.1 c = ν.1 c) → ν'.2 = ν.2 → FrC μc ν' := fun ν' w1 w2 => ⟨fun c hc => by rw [w1 c hc, y1 c (by omega)]; exact C1 c (by omega) (by omega), w2.trans (y2.trans C2)⟩
  have jn : ∀ w : Int32, jjX12_text_36 (pm_wi μ2 401 5 (nI e)) w = if e = 0 then some (nI T, pm_wi (pm_wi (pm_wi (pm_wi μ2 401 5 (nI e)) 401 6 w) 401 4 0) 402 2 (nI (T + 1))) else some (-1, pm_wi (pm_wi (pm_wi μ2 401 5 (nI e)) 401 6 w) 401 4 0) := fun w => by
    unfold jjX12_text_36
    simp only [go_let]
    rw [wi_i (show 5 ≠ 4 by decide), wi_i (show 5 ≠ 6 by decide), z5]
    by_cases c0 : e = 0
    · rw [if_pos (eq0.mpr c0), if_pos c0, wi_c (show 402 ≠ 401 by decide), wi_c (show 402 ≠ 401 by decide), wi_c (show 402 ≠ 401 by decide), M1 402 (by decide) (by decide) (by decide), eT, add_l 1, wi_e, subm1 (by omega), Nat.add_sub_cancel]
    · rw [if_neg (fun z => c0 (eq0.mp z)), if_neg c0]
  rw [jn, jn]
  have V1 : VV ν 1 (μm.1 402) := VV_eq k1 (fun c x1 x2 => by rw [y1 c (by omega)]; exact C1 c (by omega) (by omega))
  have V2 : VV ν 169 (μm.1 403) := VV_eq k2 (fun c x1 x2 => by rw [y1 c (by omega)]; exact C1 c (by omega) (by omega))
  have old : ∀ t : Nat, t < T → TXR ν μ2 t := fun t ht => by
    refine TXR_eq2 (k6 t (by rw [eT, ti_n (by omega)]; omega) (by omega)) (fun c x1 x2 => ?_) (fun k x1 x2 => M3 k (by omega))
    rw [y1 c (by omega)]
    exact C1 c (by omega) (by omega)
  have rt : ∀ (ν' μ' : PM), ν'.1 0 = ν.1 0 → ν'.1 371 = ν.1 371 → μ'.1 401 4 = 0 → μ'.1 405 = μ2.1 405 → μ'.1 401 5 = nI e → μ'.1 401 6 = μ1.1 372 9 → RT ν' μ' := fun ν' μ' w0 w1 w2 w3 w4 w5 => by
    refine ⟨?_, ?_, fun k hk => ?_, fun k hk => ?_, Or.inr ⟨?_, ?_, ?_⟩⟩
    · rw [w0, w2, y13]
    · rw [w2]
      decide
    · rw [w1, y1 371 (by decide), C1 371 (by omega) (by omega), w3, M1 405 (by decide) (by decide) (by decide)]
      exact t3 k hk
    · rw [w3, M1 405 (by decide) (by decide) (by decide)]
      exact t4 k hk
    · rw [w0, y14]
    · rw [w4, w0, y0]
    · rw [w5, w0, y16]
  by_cases c0 : e = 0
  · obtain ⟨f1, f2⟩ := g8 c0
    rw [if_pos (eq0.mpr c0), if_pos (eq0.mpr c0), if_pos c0, y1 1 (by decide), C1 1 (by omega) (by omega), cT, add_l 1]
    have e6 : (pm_wi (pm_wi (pm_wi (pm_wi μ2 401 5 (nI e)) 401 6 (-1)) 401 4 0) 402 2 (nI (T + 1))).1 402 = upd (μm.1 402) 2 (nI (T + 1)) := by rw [wi_u, wi_c (by decide), wi_c (by decide), wi_c (by decide), M1 402 (by decide) (by decide) (by decide)]
    have e3 : ∀ c, c ≠ 401 → c ≠ 402 → (pm_wi (pm_wi (pm_wi (pm_wi μ2 401 5 (nI e)) 401 6 (-1)) 401 4 0) 402 2 (nI (T + 1))).1 c = μ2.1 c := fun c x1 x2 => by rw [wi_c x2, wi_c x1, wi_c x1, wi_c x1]
    have hv : VV (pm_wi ν 1 13 (nI (T + 1))) 1 (upd (μm.1 402) 2 (nI (T + 1))) := VV_w V1 (k := 2) (by omega) (by omega) rfl rfl (OA_2 k1.2.2.2 (by rw [eT, ti_n (by omega), ti_n (by omega)]; omega))
    refine ⟨nI T, some (343 + 7 * T), pm_wi ν 1 13 (nI (T + 1)), _, rfl, rfl, ⟨?_, ?_, ?_, rt _ _ (wi_c (by decide)) (wi_c (by decide)) ?_ (e3 405 (by decide) (by decide)) ?_ ?_, ?_, fun t ht ht4 => ?_⟩, frc _ (fun c hc => wi_c (by omega)) rfl, fun c hc => ?_, fun x hx => ⟨T, hT4, by cases hx; rfl⟩⟩
    · rw [e6]
      exact hv
    · rw [e3 403 (by decide) (by decide), M1 403 (by decide) (by decide) (by decide)]
      exact VV_eq V2 (fun c x1 x2 => wi_c (by omega))
    · rw [e3 403 (by decide) (by decide), M1 403 (by decide) (by decide) (by decide), e6, upd_e, ti_n (by omega)]
      rw [eT, ti_n (by omega)] at k3
      omega
    · rw [wi_c (by decide), wi_e]
    · rw [wi_c (by decide), wi_i (by decide), wi_i (by decide), wi_e]
    · rw [wi_c (by decide), wi_i (by decide), wi_e, f1]
    · rw [wi_c (by decide), wi_i (by decide), wi_i (by decide), wi_i (by decide), M2 23 (by omega)]
      exact k5
    · rw [e6, upd_e, ti_n (by omega)] at ht
      have tr : TXR ν μ2 t := by
        by_cases ee : t = T
        · subst ee
          exact TXR_eq f2 (fun c x1 x2 => y1 c (by omega)) rfl ht4
        · exact old t (by omega)
      exact TXR_eq tr (fun c x1 x2 => wi_c (by omega)) (e3 404 (by decide) (by decide)) ht4
    · rw [e3 c (by omega) (by omega)]
      exact M1 c (by omega) (by omega) (by omega)
  · have f1 := g7 c0
    rw [if_neg (fun z => c0 (eq0.mp z)), if_neg (fun z => c0 (eq0.mp z)), if_neg c0]
    have e3 : ∀ c, c ≠ 401 → (pm_wi (pm_wi (pm_wi μ2 401 5 (nI e)) 401 6 (μ2.1 401 8)) 401 4 0).1 c = μ2.1 c := fun c x1 => by rw [wi_c x1, wi_c x1, wi_c x1]
    refine ⟨-1, some (343 + 7 * T), ν, _, rfl, rfl, ⟨?_, ?_, ?_, rt _ _ rfl rfl wi_e (e3 405 (by decide)) ?_ ?_, ?_, fun t ht ht4 => ?_⟩, frc _ (fun c hc => rfl) rfl, fun c hc => ?_, fun x hx => ⟨T, hT4, by cases hx; rfl⟩⟩
    · rw [e3 402 (by decide), M1 402 (by decide) (by decide) (by decide)]
      exact V1
    · rw [e3 403 (by decide), M1 403 (by decide) (by decide) (by decide)]
      exact V2
    · rw [e3 403 (by decide), M1 403 (by decide) (by decide) (by decide), e3 402 (by decide), M1 402 (by decide) (by decide) (by decide)]
      exact k3
    · rw [wi_i (by decide), wi_i (by decide), wi_e]
    · rw [wi_i (by decide), wi_e, f1]
    · rw [wi_i (by decide), wi_i (by decide), wi_i (by decide), M2 23 (by omega)]
      exact k5
    · rw [e3 402 (by decide), M1 402 (by decide) (by decide) (by decide), eT, ti_n (by omega)] at ht
      exact TXR_eq (old t (by omega)) (fun c x1 x2 => rfl) (e3 404 (by decide)) ht4
    · rw [e3 c (by omega)]
      exact M1 c (by omega) (by omega) (by omega)
