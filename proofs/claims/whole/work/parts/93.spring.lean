/-! ===== played, springs ===== -/
theorem PH_VF {μc μm : PM} (hP : PH true true 12 μc μm) : VF μc 1 (μm.1 402) := by
  intro k hk
  by_cases hs : (2 ≤ k ∧ k < 7) ∨ 29 ≤ k
  · exact hP.2.2.2.1 k hk hs
  · by_cases e11 : k = 11
    · subst e11
      exact (hP.2.2.1 rfl).1
    · obtain ⟨j, hj, ej⟩ := vz_back k hk (by omega)
      have := hP.1 j hj (fun q => e11 (by rw [ej, q]; rfl)) (fun _ => rfl)
      rw [vz_cur_lo hj, ← ej] at this
      have hl := vz_wloc j hj
      rw [← ej] at hl
      rw [hl, ← this]
      show μc.1 (1 + (11 + (vz_wl j).1)) (vz_wl j).2 = _
      rw [show 1 + (11 + (vz_wl j).1) = 12 + (vz_wl j).1 by omega]
theorem vb_10 : vz_lo 10 = 0 ∧ vz_hi 10 = 1023 := by decide
theorem vb_st : ∀ n, n < 5 → (if 19 + n < 2 then 19 + n else 5 + (19 + n)) = 24 + n := by decide
theorem sp_both {μc μm : PM} {m : Nat} (h : PH true true 12 μc μm) (hm : m < 30773) : ∃ μc' μm', fX11_spring μc (nI m) = some μc' ∧ fX12_happens μm (nI m) = some μm' ∧ PH true true 12 μc' μm' ∧ HC 12 μc μc' ∧ HM 7 true μm μm' := by
  have hO := ph_ob h
  have hVF := PH_VF h
  obtain ⟨N, eN, hN, -⟩ := nz_of (v := μm.1 402 0) (k := 7) (ob_names hO).1 (by have := (ob_names hO).2; omega)
  obtain ⟨F, eF, hF, -⟩ := nz_of (v := μm.1 402 1) (k := 6) (ob_families hO).1 (by have := (ob_families hO).2; omega)
  have hcell : m / 7 % 10 < 10 := Nat.mod_lt _ (by decide)
  have ecell : jrem (nI m / 7) 10 = nI (m / 7 % 10) := by rw [div_l (n := 7) (by omega) (by omega), rem_l (n := 10) (by omega) (by omega)]
  have e7 : jrem (nI m) 7 = nI (m % 7) := rem_l (n := 7) (by omega) (by omega)
  have h7 : m % 7 < 7 := Nat.mod_lt _ (by decide)
  have hst := ob_stones hO
  have hcb : 0 ≤ (nI (m / 7 % 10)).toInt ∧ (nI (m / 7 % 10)).toInt ≤ 9 := by rw [ti_n (by omega)]; omega
  -- what the class takes for NAME and FAMILY
  obtain ⟨nm, hnm⟩ : ∃ nm : Int32, (N = 0 ∧ nm = -1) ∨ (0 < N ∧ nm = nI (m % N)) := by
    by_cases h0 : N = 0
    · exact ⟨-1, Or.inl ⟨h0, rfl⟩⟩
    · exact ⟨nI (m % N), Or.inr ⟨by omega, rfl⟩⟩
  obtain ⟨fm, hfm⟩ : ∃ fm : Int32, (F = 0 ∧ fm = -1) ∨ (0 < F ∧ fm = nI (m % F)) := by
    by_cases h0 : F = 0
    · exact ⟨-1, Or.inl ⟨h0, rfl⟩⟩
    · exact ⟨nI (m % F), Or.inr ⟨by omega, rfl⟩⟩
  have s1 : fX11_spring μc (nI m) = jjX11_spring_55 μc (nI m) (nI (m / 7 % 10)) nm fm := by
    unfold fX11_spring jjX11_spring_31
    simp only [go_let]
    rw [ecell, ph_names h, ph_fams h, eN, eF]
    rcases hnm with ⟨n0, n1⟩ | ⟨n0, n1⟩ <;> rcases hfm with ⟨f0, f1⟩ | ⟨f0, f1⟩
    · rw [n0, f0, n1, f1, if_pos (by decide), if_pos (by decide)]
    · rw [n0, n1, f1, if_pos (by decide), if_neg (nI_nle f0 (by omega))]
      unfold go_nz
      rw [if_neg (nI_ne0 f0 (by omega)), nI_rem (by omega) (by omega)]
    · rw [f0, n1, f1, if_neg (nI_nle n0 (by omega)), if_pos (by decide)]
      unfold go_nz
      rw [if_neg (nI_ne0 n0 (by omega)), nI_rem (by omega) (by omega)]
    · rw [n1, f1, if_neg (nI_nle n0 (by omega)), if_neg (nI_nle f0 (by omega))]
      unfold go_nz
      rw [if_neg (nI_ne0 n0 (by omega)), if_neg (nI_ne0 f0 (by omega)), nI_rem (by omega) (by omega), nI_rem (by omega) (by omega)]
  have ex : ∀ (j : Nat), j < 7 → m % 7 ≠ j → ¬ nI (m % 7) = (OfNat.ofNat j : Int32) := fun j hj q z => q ((eq_l (n := j) (by omega) (by omega)).mp z)
  rw [s1]
  unfold jjX11_spring_55 fX12_happens
  simp only [go_let]
  rw [e7, ecell]
  -- a NAME comes to CELL 0
  have put : ∀ n, n < 6 → ∃ μc' μm', (go_chk (nI n) 6 <| some (pm_wi μc 13 (nI n).toNatClampNeg 0)) = some μc' ∧ ((fX12_put μm (nI n) 0 0).bind fun q6 => some (q6)) = some μm' ∧ PH true true 12 μc' μm' ∧ HC 12 μc μc' ∧ HM 7 true μm μm' := fun n hn => by
    rw [chk_n hn (by omega), cl_n (by omega), (q_putM _ hn).1, Option.bind_some]
    exact ⟨_, _, rfl, rfl, ph_setP h (Or.inl rfl) hn (Or.inl (by decide)), HC.wi (o := 12) (c := 1) μc (by omega), HM.wi μm (by omega)⟩
  have nop : ∃ μc' μm', some μc = some μc' ∧ some μm = some μm' ∧ PH true true 12 μc' μm' ∧ HC 12 μc μc' ∧ HM 7 true μm μm' := ⟨μc, μm, rfl, rfl, h, HC.rfl' _ _, HM.rfl' _ _ _⟩
  by_cases c0 : m % 7 = 0
  · rw [if_pos (show nI (m % 7) = 0 by rw [c0]; rfl), if_pos (show nI (m % 7) = 0 by rw [c0]; rfl), eN, q_frozenC hVF hO, q_some01]
    rcases hnm with ⟨n0, n1⟩ | ⟨n0, n1⟩
    · rw [n0, n1, if_pos (show nI 0 ≤ 0 by decide), if_neg (show ¬ ((0 ≤ (-1 : Int32).toInt ∧ (-1 : Int32).toInt < (μm.1 402 0).toInt) ∧ μm.1 402 (12 + 2 * (-1 : Int32).toNatClampNeg) = -1) from fun q => absurd q.1.1 (by decide))]
      exact nop
    · have hlt : m % N < N := Nat.mod_lt _ n0
      rw [n1, if_neg (nI_nle n0 (by omega))]
      unfold go_nz
      rw [if_neg (nI_ne0 n0 (by omega)), if_neg (nI_ne0 n0 (by omega)), nI_rem (by omega) (by omega), q_iceM hO, q_some01]
      by_cases q : (0 ≤ (nI (m % N)).toInt ∧ (nI (m % N)).toInt < (μm.1 402 0).toInt) ∧ μm.1 402 (12 + 2 * (nI (m % N)).toNatClampNeg) = -1
      · rw [if_pos q, if_pos q]
        exact put _ (by omega)
      · rw [if_neg q, if_neg q]
        exact nop
  rw [if_neg (ex 0 (by omega) c0), if_neg (ex 0 (by omega) c0)]
  have stone : ∀ v : Int32, 0 ≤ v.toInt ∧ v.toInt ≤ 1023 → ∃ μc' μm', some (pm_wi μc 12 7 v) = some μc' ∧ some (pm_wi μm 402 10 v) = some μm' ∧ PH true true 12 μc' μm' ∧ HC 12 μc μc' ∧ HM 7 true μm μm' := fun v hv =>
    ⟨_, _, rfl, rfl, PH_set h (Or.inl rfl) (j := 5) (c := 0) (by omega) (by omega) rfl rfl (OA_w h.2.2.2.2.1 (by omega) (by rw [vb_10.1, vb_10.2]; exact hv) (fun n hn q => by omega) (fun n hn q => by omega)), HC.wi (o := 12) (c := 0) μc (by omega), HM.wi μm (by omega)⟩
  by_cases c1 : m % 7 = 1
  · rw [if_pos (show nI (m % 7) = 1 by rw [c1]; rfl), if_pos (show nI (m % 7) = 1 by rw [c1]; rfl), ph_stones h]
    exact stone _ (nb_cells hst hcb).1
  rw [if_neg (ex 1 (by omega) c1), if_neg (ex 1 (by omega) c1)]
  by_cases c2 : m % 7 = 2
  · rw [if_pos (show nI (m % 7) = 2 by rw [c2]; rfl), if_pos (show nI (m % 7) = 2 by rw [c2]; rfl), ph_stones h]
    exact stone _ (nb_cells hst hcb).2.1
  rw [if_neg (ex 2 (by omega) c2), if_neg (ex 2 (by omega) c2)]
  by_cases c3 : m % 7 = 3
  · rw [if_pos (show nI (m % 7) = 3 by rw [c3]; rfl), if_pos (show nI (m % 7) = 3 by rw [c3]; rfl), eF, q_famC hVF hO, q_ite]
    rcases hfm with ⟨f0, f1⟩ | ⟨f0, f1⟩
    · rw [f0, f1, if_pos (show nI 0 ≤ 0 by decide), if_neg (show ¬ (0 ≤ (-1 : Int32).toInt ∧ (-1 : Int32).toInt < (μm.1 402 1).toInt) from fun q => absurd q.1 (by decide))]
      exact nop
    · have hlt : m % F < F := Nat.mod_lt _ f0
      rw [f1, if_neg (nI_nle f0 (by omega)), if_pos (show 0 ≤ (nI (m % F)).toInt ∧ (nI (m % F)).toInt < (μm.1 402 1).toInt by rw [eF, ti_n (by omega), ti_n (by omega)]; omega)]
      unfold go_nz
      rw [if_neg (nI_ne0 f0 (by omega)), nI_rem (by omega) (by omega), chk_n (by omega) (by omega), l_add 24, chk_n (by omega) (by omega), cl_n (show m % F < 2147483648 by omega), cl_n (show 24 + m % F < 2147483648 by omega)]
      have hf5 : m % F < 5 := by omega
      exact ⟨_, _, rfl, rfl, PH_set h (Or.inl rfl) (j := 19 + m % F) (c := 3) (by omega) (by omega) (vw_stand _ hf5) (vb_st _ hf5).symm (OA_w h.2.2.2.2.1 (by omega) (by rw [(vb_stand _ hf5).1, (vb_stand _ hf5).2]; exact hcb) (fun n hn q => by omega) (fun n hn q => by omega)), HC.wi (o := 12) (c := 3) μc (by omega), HM.wi μm (by omega)⟩
  rw [if_neg (ex 3 (by omega) c3), if_neg (ex 3 (by omega) c3)]
  by_cases c4 : m % 7 = 4
  · rw [if_pos (show nI (m % 7) = 4 by rw [c4]; rfl), if_pos (show nI (m % 7) = 4 by rw [c4]; rfl), eN, q_claimC hVF hO, q_some01]
    rcases hnm with ⟨n0, n1⟩ | ⟨n0, n1⟩
    · rw [n0, n1, if_pos (show nI 0 ≤ 0 by decide), if_neg (show ¬ ((0 ≤ (-1 : Int32).toInt ∧ (-1 : Int32).toInt < (μm.1 402 0).toInt) ∧ 20 ≤ (μm.1 402 (12 + 2 * (-1 : Int32).toNatClampNeg)).toInt) from fun q => absurd q.1.1 (by decide))]
      exact nop
    · have hlt : m % N < N := Nat.mod_lt _ n0
      rw [n1, if_neg (nI_nle n0 (by omega))]
      unfold go_nz
      rw [if_neg (nI_ne0 n0 (by omega)), if_neg (nI_ne0 n0 (by omega)), nI_rem (by omega) (by omega), q_withM hO, q_some01]
      by_cases q : (0 ≤ (nI (m % N)).toInt ∧ (nI (m % N)).toInt < (μm.1 402 0).toInt) ∧ 20 ≤ (μm.1 402 (12 + 2 * (nI (m % N)).toNatClampNeg)).toInt
      · rw [if_pos q, if_pos q]
        exact put _ (by omega)
      · rw [if_neg q, if_neg q]
        exact nop
  rw [if_neg (ex 4 (by omega) c4), if_neg (ex 4 (by omega) c4), ph_hour h]
  have t9 : (9999 : Int32).toInt = 9999 := rfl
  by_cases h9 : (9999 : Int32) ≤ μm.1 402 7
  · rw [if_pos h9, if_pos h9]
    exact nop
  · rw [if_neg h9, if_neg h9]
    obtain ⟨tx, f1, f2⟩ := ph_find h
    obtain ⟨r, μ1, μ2, g1, g2, g3, g4, g5, -⟩ := ph_pass h (Or.inl rfl) f2 (by rw [i_le, t9] at h9; omega)
    rw [f1, Option.bind_some, g1, g2, Option.bind_some, Option.bind_some]
    exact ⟨μ1, μ2, rfl, rfl, g3, g4, g5⟩
theorem c_springs (s n : Int32) : BOTH (fun μ => fX11_springs μ s n) (fun μ => fX12_springs μ s n) := by
  intro μc μm h
  dsimp only
  unfold fX11_springs fX12_springs
  rw [q_isIn, q_ite, q_isIn, q_ite]
  simp only [i_lt, i_le, show (0 : Int32).toInt = 0 from rfl, show (1 : Int32).toInt = 1 from rfl, show (40 : Int32).toInt = 40 from rfl, show (9999 : Int32).toInt = 9999 from rfl]
  by_cases hs : 0 ≤ s.toInt ∧ s.toInt ≤ 9999
  case neg =>
    rw [if_neg hs]
    refine ⟨-1, μc, μm, ?_, rfl, h, FrC.rfl' _, FrM.rfl' _⟩
    by_cases h1 : s.toInt < 0
    · rw [if_pos h1]
    · rw [if_neg h1, if_pos (by omega)]
  rw [if_neg (by omega), if_neg (by omega), if_pos hs]
  by_cases hn : 1 ≤ n.toInt ∧ n.toInt ≤ 40
  case neg =>
    rw [if_neg hn]
    refine ⟨-1, μc, μm, ?_, rfl, h, FrC.rfl' _, FrM.rfl' _⟩
    by_cases h1 : n.toInt < 1
    · rw [if_pos h1]
    · rw [if_neg h1, if_neg (by omega)]
  rw [if_neg (by omega), if_pos (by omega), if_pos hn]
  obtain ⟨x, rfl, hx, -⟩ := nz_of (v := s) (k := 10000) hs.1 (by omega)
  obtain ⟨m, rfl, hm, -⟩ := nz_of (v := n) (k := 41) (by omega) (by omega)
  obtain ⟨μ1, μ2, g1, g2, g3, g4, g5, g6⟩ := kp_both h.1
  rw [g1, g2, Option.bind_some, Option.bind_some, mul_l 2, add_l 307]
  dsimp only [go_let]
  have hR := RR_of h (g4.wi (c := 12) (i := 10) (v := nI (x * 2 + 307)) (by omega)) (g5.wi (c := 402) (i := 8) (v := nI (x * 2 + 307)) (by omega)) (by
    rw [wi_u]
    exact VV_w g3 (k := 8) (by omega) (by omega) rfl rfl (OA_x g3.2.2.2 (by omega))) (by rw [wi_i (by omega)]; exact g6 2 (by omega) (by omega))
  obtain ⟨r, r', k1, k2, k3⟩ := lp_two (f := fun q : Int32 × PM => lbX11_springs_54 (nI x) (nI m) q.1 q.2) (g := fun q : Int32 × PM => lbX12_springs_43 (nI x) (nI m) q.1 q.2)
    (fun s t => ∃ i : Nat, i ≤ m ∧ s.1 = nI i ∧ t.1 = nI i ∧ RR s.2 t.2 ∧ FrC μc s.2 ∧ FrM μm t.2) (fun s => m - s.1.toNatClampNeg)
    (fun r r' => ∃ q μ1 μ2, r = (q, μ1) ∧ r' = (q, μ2) ∧ RR μ1 μ2 ∧ FrC μc μ1 ∧ FrM μm μ2)
    (fun s t hI => by
      obtain ⟨s1, s2⟩ := s
      obtain ⟨t1, t2⟩ := t
      obtain ⟨i, hi, e1, e2, hR, hC, hF⟩ := hI
      have e1 : s1 = nI i := e1
      have e2 : t1 = nI i := e2
      have hR : RR s2 t2 := hR
      have hC : FrC μc s2 := hC
      have hF : FrM μm t2 := hF
      subst e1 e2
      have hP := RR_ph hR
      dsimp only
      unfold lbX11_springs_54 lbX12_springs_43
      have hle : nI m ≤ nI i ↔ m ≤ i := le_n (by omega) (by omega)
      by_cases hlt : m ≤ i
      · right
        rw [if_pos (hle.mpr hlt), if_pos (hle.mpr hlt), ph_hour hP]
        exact ⟨_, _, rfl, rfl, _, s2, t2, rfl, rfl, hR, hC, hF⟩
      · left
        rw [if_neg (fun q => hlt (hle.mp q)), if_neg (fun q => hlt (hle.mp q)), ph_x hP]
        have hxb : 0 ≤ (t2.1 402 8).toInt ∧ (t2.1 402 8).toInt ≤ 30772 := ob_x (ph_ob hP)
        obtain ⟨y, ey, hy, -⟩ := nz_of (v := t2.1 402 8) (k := 30773) hxb.1 (by omega)
        obtain ⟨p1, p2, p3, -, -⟩ := ph_renew hP (Or.inl rfl)
        obtain ⟨μ3, μ4, w1, w2, w3, w4, w5⟩ := sp_both p1 (m := y) (by omega)
        dsimp only [go_let]
        rw [ey, w1, w2, Option.bind_some, Option.bind_some, add_l 1]
        obtain ⟨hR3, hC3, hF3⟩ := RR_hr hR w3 (p2.tr w4) ((p3.lo (by omega)).tr w5)
        refine ⟨_, _, rfl, rfl, ⟨i + 1, by omega, rfl, rfl, hR3, hC.tr hC3, hF.tr hF3⟩, ?_⟩
        show m - (nI (i + 1)).toNatClampNeg < m - (nI i).toNatClampNeg
        rw [cl_n (by omega), cl_n (by omega)]
        omega)
    go_fuel go_fuel (0, pm_wi μ1 12 10 (nI (x * 2 + 307))) (0, pm_wi μ2 402 8 (nI (x * 2 + 307))) ⟨0, by omega, rfl, rfl, hR⟩ (by show m - _ < go_fuel; unfold go_fuel; omega) (by show m - _ < go_fuel; unfold go_fuel; omega)
  obtain ⟨q, ν1, ν2, rfl, rfl, w1, w2, w3⟩ := k3
  rw [k1, k2]
  exact ⟨q, ν1, ν2, rfl, rfl, w1, w2, w3⟩
/-! what the parts of a script leave as it is -/
theorem k2_keep {μ μ' : PM} (hO : OB (μ.1 402)) (h : fX12_keep μ = some μ') : μ'.1 402 2 = μ.1 402 2 := by
  obtain ⟨N, eN, hN, -⟩ := nz_of (v := μ.1 402 4) (k := 31) (ob_count hO).1 (by have := (ob_count hO).2; omega)
  rw [kp_M eN (by omega)] at h
  have h := Option.some.inj h
  rw [← h]
  by_cases h30 : N = 30
  · rw [if_pos h30, (kp_row (by omega)).1 2 (by omega) (by omega), wi_i (by omega), cp_out (by omega)]
  · rw [if_neg h30, (kp_row (by omega)).1 2 (by omega) (by omega)]
theorem k2_put {μ μ' : PM} {n v w : Int32} (h : fX12_put μ n w v = some μ') (hn : 0 ≤ n.toInt ∧ n.toInt < 6) (hw : w = 0 ∨ w = 1) : ∀ k, k < 12 → μ'.1 402 k = μ.1 402 k := by
  obtain ⟨m, rfl, hm, -⟩ := nz_of (v := n) (k := 6) hn.1 hn.2
  intro k hk
  rcases hw with rfl | rfl
  · rw [(q_putM _ (by omega)).1] at h
    rw [← Option.some.inj h, wi_i (by omega)]
  · rw [(q_putM _ (by omega)).2] at h
    rw [← Option.some.inj h, wi_i (by omega)]
theorem k2_name {μ μ' : PM} {s l r : Int32} (hO : OB (μ.1 402)) (h : fX12_name μ s l = some (r, μ')) : μ'.1 402 2 = μ.1 402 2 ∧ (r = -1 ∨ 0 ≤ r.toInt) := by
  unfold fX12_name at h
  obtain ⟨q1, -, h⟩ := Option.bind_eq_some_iff.mp h
  have hn := ob_names hO
  have fin : ∀ {x : Int32} {y : PM}, some ((-1 : Int32), μ) = some (x, y) → y.1 402 2 = μ.1 402 2 ∧ (x = -1 ∨ 0 ≤ x.toInt) := fun q => by
    obtain ⟨rfl, rfl⟩ := Prod.mk.inj (Option.some.inj q)
    exact ⟨rfl, Or.inl rfl⟩
  split at h
  · exact fin h
  split at h
  · exact fin h
  split at h
  · exact fin h
  rename_i h6
  have h6' : ¬ (μ.1 402 0).toInt = 6 := fun q => h6 (i_eq.mpr q)
  obtain ⟨N, eN, hN, -⟩ := nz_of (v := μ.1 402 0) (k := 6) hn.1 (by omega)
  simp only [go_let] at h
  rw [eN, l_add 30, l_add 36, chk_n (show 30 + N < 1792 by omega) (by omega), chk_n (show 36 + N < 1792 by omega) (by omega), cl_n (show 30 + N < 2147483648 by omega), cl_n (show 36 + N < 2147483648 by omega)] at h
  obtain ⟨q6, h1, h⟩ := Option.bind_eq_some_iff.mp h
  obtain ⟨rfl, rfl⟩ := Prod.mk.inj (Option.some.inj h)
  unfold fX12_begin at h1
  obtain ⟨q7, h2, h1⟩ := Option.bind_eq_some_iff.mp h1
  obtain ⟨-, h1⟩ := go_chk_e h1
  obtain ⟨q8, -, h1⟩ := Option.bind_eq_some_iff.mp h1
  obtain ⟨q9, h3, h1⟩ := Option.bind_eq_some_iff.mp h1
  have h1 := Option.some.inj h1
  have tN : 0 ≤ (nI N).toInt ∧ (nI N).toInt < 6 := by rw [ti_n (by omega)]; omega
  refine ⟨?_, Or.inr tN.1⟩
  rw [wi_i (by omega), ← h1, k2_put h3 tN (Or.inr rfl) 2 (by omega), k2_put h2 tN (Or.inl rfl) 2 (by omega), wi_i (by omega), wi_i (by omega)]
theorem k2_family {μ μ' : PM} {s l r : Int32} (hO : OB (μ.1 402)) (h : fX12_family μ s l = some (r, μ')) : μ'.1 402 2 = μ.1 402 2 ∧ (r = -1 ∨ 0 ≤ r.toInt) := by
  unfold fX12_family at h
  have hn := ob_families hO
  have fin : ∀ {x : Int32} {y : PM}, some ((-1 : Int32), μ) = some (x, y) → y.1 402 2 = μ.1 402 2 ∧ (x = -1 ∨ 0 ≤ x.toInt) := fun q => by
    obtain ⟨rfl, rfl⟩ := Prod.mk.inj (Option.some.inj q)
    exact ⟨rfl, Or.inl rfl⟩
  split at h
  · exact fin h
  split at h
  · exact fin h
  split at h
  · exact fin h
  rename_i h6
  have h6' : ¬ (μ.1 402 1).toInt = 5 := fun q => h6 (i_eq.mpr q)
  obtain ⟨N, eN, hN, -⟩ := nz_of (v := μ.1 402 1) (k := 5) hn.1 (by omega)
  simp only [go_let] at h
  rw [eN, l_add 42, l_add 47, l_add 24, chk_n (show 42 + N < 1792 by omega) (by omega), chk_n (show 47 + N < 1792 by omega) (by omega), chk_n (show 24 + N < 1792 by omega) (by omega), cl_n (show 42 + N < 2147483648 by omega), cl_n (show 47 + N < 2147483648 by omega), cl_n (show 24 + N < 2147483648 by omega)] at h
  obtain ⟨rfl, rfl⟩ := Prod.mk.inj (Option.some.inj h)
  refine ⟨?_, Or.inr (by rw [ti_n (by omega)]; omega)⟩
  rw [wi_i (by omega), wi_i (by omega), wi_i (by omega), wi_i (by omega)]
theorem k2_call {μ μ' : PM} {b r : Int32} (hO : OB (μ.1 402)) (h : fX12_call μ b = some (r, μ')) : μ'.1 402 2 = μ.1 402 2 := by
  have hn := ob_names hO
  unfold fX12_call at h
  rw [q_iceM hO, q_some01] at h
  split at h
  · rename_i hc
    obtain ⟨q2, h2, h⟩ := Option.bind_eq_some_iff.mp h
    obtain ⟨q3, h3, h⟩ := Option.bind_eq_some_iff.mp h
    obtain ⟨rfl, rfl⟩ := Prod.mk.inj (Option.some.inj h)
    rw [k2_put h3 ⟨hc.1.1, by omega⟩ (Or.inl rfl) 2 (by omega), k2_keep hO h2]
  · obtain ⟨rfl, rfl⟩ := Prod.mk.inj (Option.some.inj h)
    rfl
theorem k2_sink {μ μ' : PM} {b r : Int32} (hO : OB (μ.1 402)) (h : fX12_sink μ b = some (r, μ')) : μ'.1 402 2 = μ.1 402 2 := by
  have hn := ob_names hO
  unfold fX12_sink at h
  rw [q_withM hO, q_some01] at h
  split at h
  · rename_i hc
    obtain ⟨q2, h2, h⟩ := Option.bind_eq_some_iff.mp h
    obtain ⟨q3, h3, h⟩ := Option.bind_eq_some_iff.mp h
    obtain ⟨rfl, rfl⟩ := Prod.mk.inj (Option.some.inj h)
    rw [k2_put h3 ⟨hc.1.1, by omega⟩ (Or.inl rfl) 2 (by omega), k2_keep hO h2]
  · obtain ⟨rfl, rfl⟩ := Prod.mk.inj (Option.some.inj h)
    rfl
theorem k2_stone {μ μ' : PM} {b l r : Int32} (hO : OB (μ.1 402)) (h : fX12_stone μ b l = some (r, μ')) : μ'.1 402 2 = μ.1 402 2 := by
  unfold fX12_stone at h
  split at h
  · obtain ⟨rfl, rfl⟩ := Prod.mk.inj (Option.some.inj h)
    rfl
  split at h
  · obtain ⟨rfl, rfl⟩ := Prod.mk.inj (Option.some.inj h)
    rfl
  obtain ⟨q2, h2, h⟩ := Option.bind_eq_some_iff.mp h
  simp only [go_let] at h
  obtain ⟨rfl, rfl⟩ := Prod.mk.inj (Option.some.inj h)
  rw [wi_i (by omega), k2_keep hO h2]
theorem k2_stand {μ μ' : PM} {f b r : Int32} (hO : OB (μ.1 402)) (h : fX12_stand μ f b = some (r, μ')) : μ'.1 402 2 = μ.1 402 2 := by
  have hn := ob_families hO
  unfold fX12_stand at h
  rw [q_famM hO, q_ite] at h
  split at h
  case isFalse =>
    obtain ⟨rfl, rfl⟩ := Prod.mk.inj (Option.some.inj h)
    rfl
  rename_i hf
  obtain ⟨g, rfl, hg, -⟩ := nz_of (v := f) (k := 5) hf.1 (by omega)
  split at h
  · obtain ⟨rfl, rfl⟩ := Prod.mk.inj (Option.some.inj h)
    rfl
  obtain ⟨-, h⟩ := go_chk_e h
  split at h
  · obtain ⟨rfl, rfl⟩ := Prod.mk.inj (Option.some.inj h)
    rfl
  obtain ⟨q2, h2, h⟩ := Option.bind_eq_some_iff.mp h
  obtain ⟨-, h⟩ := go_chk_e h
  simp only [go_let] at h
  obtain ⟨rfl, rfl⟩ := Prod.mk.inj (Option.some.inj h)
  rw [l_add 24, cl_n (by omega), wi_i (by omega), k2_keep hO h2]
