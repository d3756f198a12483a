/-! ===== HOURS ===== -/
theorem PH_melt {bk : Bool} {o n N : Nat} {μc μm : PM} {tx : Option Nat} (h : PH bk true o μc μm) (ho : PO o) (hT : TA μm tx (μm.1 402 3)) (eN : μm.1 402 0 = nI N) (hN : N ≤ 6) (hn : n < N) (v3 : Int32) :
    ∃ r μc' μm', lbX0_passHour_13 tx o v3 (nI n) μc = some (.inl (v3 + r, nI (n + 1), μc')) ∧ lbX12_pass_15 (nI n) μm = some (.inl (nI (n + 1), μm')) ∧ PH bk true o μc' μm' ∧ HC o μc μc' ∧ HM 8 bk μm μm' ∧ μm'.1 401 24 = μm.1 401 24 + r := by
  have hn6 : n < 6 := by omega
  have hOB := ph_ob h
  have hpb := ob_place hOB hn6
  have hpo : (μm.1 402 (12 + 2 * n)).toInt ≤ 10 ∨ 20 ≤ (μm.1 402 (12 + 2 * n)).toInt := by
    have := h.2.2.2.2.1.2.1.2.1 n hn6
    rw [vz_cur_lo (by omega), if_neg (by omega), show 5 + (7 + 2 * n) = 12 + 2 * n by omega] at this
    exact this
  have z0 : ∀ x : Int32, x + 0 = x := fun x => Int32.add_zero x
  unfold lbX0_passHour_13 lbX12_pass_15
  simp only [go_let]
  have hle : nI N ≤ nI n ↔ N ≤ n := le_n (by omega) (by omega)
  rw [ph_names h, eN, if_neg (fun q => absurd (hle.mp q) (by omega)), if_neg (fun q => absurd (hle.mp q) (by omega)), if_neg (by rw [l_le (n := 6) (by omega) (by omega)]; omega), chk_n hn6 (by omega), cl_n (by omega), ph_place h hn6, q_iceM hOB, q_some01, ti_n (by omega), cl_n (by omega), eN, ti_n (by omega), add_l 1]
  by_cases h1 : μm.1 402 (12 + 2 * n) = -1
  · rw [if_pos h1, if_pos (show (0 ≤ (n : Int) ∧ (n : Int) < (N : Int)) ∧ μm.1 402 (12 + 2 * n) = -1 from ⟨by omega, h1⟩)]
    obtain ⟨r, μ1, μ2, g1, g2, g3, g4, g5⟩ := ph_melts h ho hn6 hT
    rw [g1, g2, Option.bind_some, Option.bind_some]
    dsimp only
    by_cases hr : r ≤ 0
    · rw [if_pos hr, if_pos hr]
      exact ⟨0, μ1, μ2, by rw [z0], rfl, g3, g4.hc o, g5.hm 8 bk, by rw [z0, g5 401 (by omega) (by omega)]⟩
    · rw [if_neg hr, if_neg hr, chk_n hn6 (by omega), (q_putM _ hn6).1, Option.bind_some]
      exact ⟨0, _, _, by rw [z0], rfl, ph_setP g3 ho hn6 (Or.inl (by decide)), (g4.hc o).tr (HC.wi (c := 1) μ1 (by omega)), (g5.hm 8 bk).tr (HM.wi μ2 (by omega)), by rw [z0, wi_c (by omega), g5 401 (by omega) (by omega)]⟩
  have h1' : ¬ (μm.1 402 (12 + 2 * n)).toInt = -1 := fun q => h1 (i_eq.mpr q)
  rw [if_neg h1, if_neg (show ¬ ((0 ≤ (n : Int) ∧ (n : Int) < (N : Int)) ∧ μm.1 402 (12 + 2 * n) = -1) from fun q => h1 q.2), (q_getM hn6).1, Option.bind_some, q_cellM, q_ite]
  have t10 : (10 : Int32).toInt = 10 := rfl
  by_cases h2 : 0 ≤ (μm.1 402 (12 + 2 * n)).toInt ∧ (μm.1 402 (12 + 2 * n)).toInt ≤ 9
  · rw [if_pos h2, if_neg (by rw [i_le, t10]; omega)]
    obtain ⟨r, μ1, μ2, g1, g2, g3, g4, g5, g6⟩ := ph_goOn h ho hn6 (by rw [eN, ti_n (by omega)]; omega) h2 hT
    rw [g1, g2, Option.bind_some, Option.bind_some]
    dsimp only
    rcases g6 with ⟨rfl, g6⟩ | ⟨rfl, g6⟩
    · rw [if_pos rfl]
      exact ⟨0, μ1, μ2, by rw [z0], rfl, g3, g4, g5, by rw [z0, g6]⟩
    · rw [if_neg (by decide)]
      exact ⟨1, μ1, μ2, rfl, rfl, g3, g4, g5, g6⟩
  · rw [if_neg h2, if_pos (by rw [i_le, t10]; omega)]
    exact ⟨0, μc, μm, by rw [z0], rfl, h, HC.rfl' _ _, HM.rfl' _ _ _, (z0 _).symm⟩
theorem ph_pass {bk : Bool} {o : Nat} {μc μm : PM} {tx : Option Nat} (h : PH bk true o μc μm) (ho : PO o) (hT : TA μm tx (μm.1 402 3)) (hh : (μm.1 402 7).toInt < 9999) :
    ∃ r μc' μm', fX0_passHour μc tx o = some (r, μc') ∧ fX12_pass μm = some μm' ∧ PH bk true o μc' μm' ∧ HC o μc μc' ∧ HM 7 bk μm μm' ∧ μm'.1 401 24 = μm.1 401 24 + r ∧ μm'.1 402 7 = μm.1 402 7 + 1 := by
  have hnb := ob_names (ph_ob h)
  obtain ⟨N, eN, hN, -⟩ := nz_of (v := μm.1 402 0) (k := 7) hnb.1 (by omega)
  obtain ⟨d, hd, d1, d2⟩ := ph_draw10 h ho
  obtain ⟨p1, p2, p3, p4, p5⟩ := ph_renew h ho
  unfold fX0_passHour fX12_pass
  simp only [go_let]
  rw [d1, d2, Option.bind_some]
  dsimp only
  have hP2 : PH bk true o (pm_wi (fX10_renewX μc o) o 8 (nI d)) (pm_wi (fX12_anew μm) 402 9 (nI d)) :=
    PH_set p1 ho (j := 4) (c := 0) (by omega) (by omega) rfl rfl (OA_w p1.2.2.2.2.1 (by omega) (by rw [vb_9.1, vb_9.2, ti_n (by omega)]; omega) (fun n hn q => by omega) (fun n hn q => by omega))
  have hC2 : HC o μc (pm_wi (fX10_renewX μc o) o 8 (nI d)) := p2.tr (HC.wi (c := 0) _ (by omega))
  have hM2 : HM 8 bk μm (pm_wi (fX12_anew μm) 402 9 (nI d)) := p3.tr (HM.wi _ (by omega))
  have h24 : (pm_wi (fX12_anew μm) 402 9 (nI d)).1 401 24 = μm.1 401 24 := by rw [wi_c (by omega), p4]
  generalize pm_wi (fX10_renewX μc o) o 8 (nI d) = ν at hP2 hC2 ⊢
  generalize pm_wi (fX12_anew μm) 402 9 (nI d) = ω at hP2 hM2 h24 ⊢
  have z0 : ∀ x : Int32, x + 0 = x := fun x => Int32.add_zero x
  obtain ⟨r, r', k1, k2, k3⟩ := lp_two (f := fun s : Int32 × Int32 × PM => lbX0_passHour_13 tx o s.1 s.2.1 s.2.2) (g := fun s : Int32 × PM => lbX12_pass_15 s.1 s.2)
    (fun s t => ∃ n : Nat, n ≤ N ∧ s.2.1 = nI n ∧ t.1 = nI n ∧ PH bk true o s.2.2 t.2 ∧ HC o μc s.2.2 ∧ HM 8 bk μm t.2 ∧ t.2.1 401 24 = μm.1 401 24 + s.1) (fun s => N - s.2.1.toNatClampNeg)
    (fun r r' => ∃ q μ1 μ2, r = .inl (q, μ1) ∧ r' = .inl μ2 ∧ PH bk true o μ1 μ2 ∧ HC o μc μ1 ∧ HM 8 bk μm μ2 ∧ μ2.1 401 24 = μm.1 401 24 + q)
    (fun s t hI => by
      obtain ⟨s0, s1, s2⟩ := s
      obtain ⟨t1, t2⟩ := t
      obtain ⟨n, hn, e1, e2, hP, hC, hM, hq⟩ := hI
      have e1 : s1 = nI n := e1
      have e2 : t1 = nI n := e2
      have hP : PH bk true o s2 t2 := hP
      have hC : HC o μc s2 := hC
      have hM : HM 8 bk μm t2 := hM
      have hq : t2.1 401 24 = μm.1 401 24 + s0 := hq
      subst e1 e2
      have eN2 : t2.1 402 0 = nI N := by rw [hM.2.2 0 (by omega)]; exact eN
      dsimp only
      by_cases hlt : n < N
      · left
        obtain ⟨r, μ1, μ2, g1, g2, g3, g4, g5, g6⟩ := PH_melt hP ho (TA_hm hT hM (by omega)) eN2 (by omega) hlt s0
        refine ⟨_, _, g1, g2, ⟨n + 1, by omega, rfl, rfl, g3, hC.tr g4, hM.tr g5, ?_⟩, ?_⟩
        · rw [g6, hq, Int32.add_assoc]
        · show N - (nI (n + 1)).toNatClampNeg < N - (nI n).toNatClampNeg
          rw [cl_n (by omega), cl_n (by omega)]
          omega
      · right
        have e : n = N := by omega
        refine ⟨.inl (s0, s2), .inl t2, ?_, ?_, s0, s2, t2, rfl, rfl, hP, hC, hM, hq⟩
        · unfold lbX0_passHour_13
          rw [ph_names hP, eN2, if_pos (by rw [le_n (by omega) (by omega)]; omega)]
        · unfold lbX12_pass_15
          rw [eN2, if_pos (by rw [le_n (by omega) (by omega)]; omega)])
    go_fuel go_fuel (0, 0, ν) (0, ω) ⟨0, by omega, rfl, rfl, hP2, hC2, hM2, by rw [h24]; exact (z0 _).symm⟩ (by show N - _ < go_fuel; unfold go_fuel; omega) (by show N - _ < go_fuel; unfold go_fuel; omega)
  obtain ⟨q, μ1, μ2, rfl, rfl, g1, g2, g3, g4⟩ := k3
  rw [k1, k2, Option.bind_some, Option.bind_some]
  have eh : μ2.1 402 7 = μm.1 402 7 := g3.2.2 7 (by omega)
  have hhb := ob_hour (ph_ob h)
  obtain ⟨x, ex, hx, hx2⟩ := nz_of (v := μm.1 402 7) (k := 9999) hhb.1 hh
  refine ⟨q, pm_wi μ1 o 9 (nI (x + 1)), pm_wi μ2 402 7 (nI (x + 1)), ?_, ?_, PH_set g1 ho (j := 2) (c := 0) (by omega) (by omega) rfl rfl (OA_w g1.2.2.2.2.1 (by omega) (by rw [vb_7.1, vb_7.2, ti_n (by omega)]; omega) (fun n hn q => by omega) (fun n hn q => by omega)), g2.tr (HC.wi (c := 0) μ1 (by omega)), (g3.lo (by omega)).tr (HM.wi μ2 (by omega)), by rw [wi_c (by omega)]; exact g4, by rw [wi_e, ex, add_l 1]⟩
  · show jjX0_passHour_96 μ1 tx o q = _
    unfold jjX0_passHour_96
    simp only [go_let]
    rw [ph_hour g1, eh, ex, add_l 1]
  · show (go_let (pm_wi μ2 402 7 ((μ2.1 402 7) + 1)) fun μ10 => some (μ10)) = _
    simp only [go_let]
    rw [eh, ex, add_l 1]
/-! the whole relation, and the part of it that an HOUR needs -/
theorem RR_ph {μc μm : PM} (h : RR μc μm) : PH true true 12 μc μm := by
  obtain ⟨⟨k1, k2, k3, k4⟩, -, -, -, k5, k6⟩ := h
  refine ⟨fun j hj _ _ => ?_, ?_, fun _ => ⟨v1_written k1, k2⟩, fun k hk _ => k1 k hk, k4, k5, k6⟩
  · have := k1 (if j < 2 then j else 5 + j) (by split <;> omega)
    rw [vz_wloc j hj] at this
    rw [vz_cur_lo hj, ← this]
    show _ = μc.1 (1 + (11 + (vz_wl j).1)) (vz_wl j).2
    rw [show 1 + (11 + (vz_wl j).1) = 12 + (vz_wl j).1 by omega]
  · rw [v1_written k1]
    exact ob_written k4.1
theorem vz_back : ∀ k, k < 142 → (k < 2 ∨ (7 ≤ k ∧ k < 29)) → ∃ j, j < 24 ∧ k = (if j < 2 then j else 5 + j) := by
  intro k _ h
  rcases h with h | h
  · exact ⟨k, by omega, by rw [if_pos h]⟩
  · exact ⟨k - 5, by omega, by rw [if_neg (by omega)]; omega⟩
theorem RR_hr {μc μm μc' μm' : PM} (h : RR μc μm) (hP : PH true true 12 μc' μm') (hC : HC 12 μc μc') (hM : HM 7 true μm μm') : RR μc' μm' ∧ FrC μc μc' ∧ FrM μm μm' := by
  have hV := h.1
  have hEC : EC μc μc' := ⟨hC.1 0 (by omega) (by omega) (by omega), fun c h1 h2 => hC.1 c (by omega) (by omega) (by omega), fun c h1 h2 => hC.1 c (by omega) (by omega) (by omega), fun c h1 => hC.1 c (by omega) (by omega) (by omega), hC.2⟩
  have hEM : EM μm μm' := ⟨⟨hM.2.1 4 (by omega), hM.2.1 5 (by omega), hM.2.1 6 (by omega), hM.2.1 23 (by omega)⟩, hM.1 403 (by omega) (by omega) (by omega) (by omega), hM.1 404 (by omega) (by omega) (by omega) (by omega), hM.1 405 (by omega) (by omega) (by omega) (by omega), fun c hc => hM.1 c (by omega) (by omega) (by omega) (by omega)⟩
  refine RR_of h hEC hEM ⟨fun k hk => ?_, (hP.2.2.1 rfl).2, ?_, hP.2.2.2.2.1⟩ (hM.2.2 2 (by omega))
  · by_cases hs : (2 ≤ k ∧ k < 7) ∨ 29 ≤ k
    · exact hP.2.2.2.1 k hk hs
    · by_cases e11 : k = 11
      · subst e11
        exact (hP.2.2.1 rfl).1
      · obtain ⟨j, hj, ej⟩ := vz_back k hk (by omega)
        have := hP.1 j hj (fun q => e11 (by rw [ej, q]; rfl)) (fun _ => rfl)
        rw [vz_cur_lo hj, ← ej] at this
        have hl := vz_wloc j hj
        rw [← ej] at hl
        rw [hl, ← this]
        show μc'.1 (1 + (11 + (vz_wl j).1)) (vz_wl j).2 = _
        rw [show 1 + (11 + (vz_wl j).1) = 12 + (vz_wl j).1 by omega]
  · refine VS_eq hV.2.2.1 ?_ (fun c h1 h2 => hC.1 c (by omega) (by omega) (by omega)) (hM.2.2 4 (by omega)) (fun k h1 h2 => hM.2.2 k (Or.inr ⟨by omega, fun _ => h2⟩)) (ob_count hV.2.2.2.1).2
    rw [hC.1 17 (by omega) (by omega) (by omega)]
theorem q_find {μ : PM} {T : Nat} (hT : μ.1 1 13 = nI T) (h4 : T ≤ 4) (v : Int32) : (∃ k : Nat, k < T ∧ v = nI k ∧ fX11_findText μ v = some (some (343 + 7 * k))) ∨ (¬ (0 ≤ v.toInt ∧ v.toInt < (T : Int)) ∧ fX11_findText μ v = some none) := by
  have e : fX11_isText μ v = if 0 ≤ v.toInt ∧ v.toInt < (T : Int) then 1 else 0 := by
    unfold fX11_isText
    simp only [i_lt, i_le, hT, ti_n (show T < 2147483648 by omega), show (0 : Int32).toInt = 0 from rfl, show (4 : Int32).toInt = 4 from rfl]
    repeat' split
    all_goals first | rfl | (exfalso; omega)
  unfold fX11_findText
  rw [e, q_ite]
  by_cases h : 0 ≤ v.toInt ∧ v.toInt < (T : Int)
  · left
    obtain ⟨k, rfl, hk, -⟩ := nz_of (v := v) (k := T) h.1 h.2
    refine ⟨k, by omega, rfl, ?_⟩
    rw [if_pos h, chk_n (by omega) (by omega), cl_n (by omega)]
  · right
    refine ⟨h, ?_⟩
    rw [if_neg h]
theorem ph_find {bk xk : Bool} {o : Nat} {μc μm : PM} (h : PH bk xk o μc μm) : ∃ tx, fX11_findText μc (μc.1 1 14) = some tx ∧ TA μm tx (μm.1 402 3) := by
  have hb := ob_texts (ph_ob h)
  have hr := ob_ruling (ph_ob h)
  obtain ⟨T, eT, hT, hT2⟩ := nz_of (v := μm.1 402 2) (k := 5) hb.1 (by omega)
  rcases q_find (μ := μc) (T := T) (by rw [ph_texts h]; exact eT) (by omega) (μc.1 1 14) with ⟨k, k1, k2, k3⟩ | ⟨k1, k2⟩
  · exact ⟨_, k3, Or.inr ⟨k, by omega, by omega, rfl, by rw [← ph_ruling h]; exact k2⟩⟩
  · refine ⟨_, k2, Or.inl ⟨rfl, ?_⟩⟩
    rw [ph_ruling h] at k1
    have := h.2.2.2.2.1.2.2.2.1
    exact i_eq.mpr (by show _ = (-1 : Int); omega)
theorem hr_both {μc μm : PM} (h : RR μc μm) (v : Int32) : ∃ r q μc' μm', fX11_passHours μc (jmin v (9999 - μm.1 402 7)) = some (r, μc') ∧ fX12_arePassed μm v = some (q, μm') ∧ RR μc' μm' ∧ FrC μc μc' ∧ FrM μm μm' ∧ μm'.1 401 24 = r ∧ ((q = 1 ∧ jmin v (9999 - μm.1 402 7) = v) ∨ (q = 0 ∧ jmin v (9999 - μm.1 402 7) ≠ v)) ∧ μm'.1 402 2 = μm.1 402 2 := by
  have hP := RR_ph h
  obtain ⟨x, ex, hx, -⟩ := nz_of (v := μm.1 402 7) (k := 10000) (ob_hour (ph_ob hP)).1 (by have := (ob_hour (ph_ob hP)).2; omega)
  have e9 : (9999 : Int32) - μm.1 402 7 = nI (9999 - x) := by rw [ex]; exact l_sub (n := 9999) (by omega)
  obtain ⟨tx, f1, f2⟩ := ph_find hP
  rw [e9]
  -- how many pass
  obtain ⟨M, hM1, hM2⟩ : ∃ M : Nat, M ≤ 9999 - x ∧ ((v.toInt ≤ 0 ∧ M = 0 ∧ jmin v (nI (9999 - x)) = v) ∨ (v = nI M ∧ jmin v (nI (9999 - x)) = v) ∨ (M = 9999 - x ∧ (M : Int) < v.toInt ∧ jmin v (nI (9999 - x)) = nI M)) := by
    unfold jmin
    have hj : nI (9999 - x) < v ↔ ((9999 - x : Nat) : Int) < v.toInt := by rw [i_lt, ti_n (by omega)]
    by_cases h1 : ((9999 - x : Nat) : Int) < v.toInt
    · exact ⟨9999 - x, by omega, Or.inr (Or.inr ⟨rfl, h1, by rw [if_pos (hj.mpr h1)]⟩)⟩
    · have hj2 : ¬ nI (9999 - x) < v := fun q => h1 (hj.mp q)
      by_cases h0 : v.toInt ≤ 0
      · exact ⟨0, by omega, Or.inl ⟨h0, rfl, by rw [if_neg hj2]⟩⟩
      · obtain ⟨m, em, hm, hm2⟩ := nz_of (v := v) (k := v.toInt + 1) (by omega) (by omega)
        exact ⟨m, by omega, Or.inr (Or.inl ⟨em, by rw [if_neg hj2]⟩)⟩
  have h24 : RR μc (pm_wi μm 401 24 0) ∧ FrM μm (pm_wi μm 401 24 0) := by
    have := RR_of h (EC.rfl' μc) (EM.wi (c := 401) (i := 24) (v := 0) (EM.rfl' μm) (by omega)) (by rw [wi_c (by omega)]; exact h.1) (by rw [wi_c (by omega)])
    exact ⟨this.1, this.2.2⟩
  obtain ⟨r, r', k1, k2, k3⟩ := lp_two (f := fun s : Int32 × Int32 × PM => lbX11_passHours_17 (jmin v (nI (9999 - x))) tx s.1 s.2.1 s.2.2) (g := fun s : Int32 × PM => lbX12_arePassed_7 v s.1 s.2)
    (fun s t => ∃ i : Nat, i ≤ M ∧ s.2.1 = nI i ∧ t.1 = nI i ∧ RR s.2.2 t.2 ∧ FrC μc s.2.2 ∧ FrM μm t.2 ∧ TA t.2 tx (t.2.1 402 3) ∧ t.2.1 401 24 = s.1 ∧ t.2.1 402 7 = nI (x + i) ∧ t.2.1 402 2 = μm.1 402 2) (fun s => M - s.2.1.toNatClampNeg)
    (fun r r' => ∃ c q μ1 μ2, r = (c, μ1) ∧ r' = (q, μ2) ∧ RR μ1 μ2 ∧ FrC μc μ1 ∧ FrM μm μ2 ∧ μ2.1 401 24 = c ∧ ((q = 1 ∧ jmin v (nI (9999 - x)) = v) ∨ (q = 0 ∧ jmin v (nI (9999 - x)) ≠ v)) ∧ μ2.1 402 2 = μm.1 402 2)
    (fun s t hI => by
      obtain ⟨s0, s1, s2⟩ := s
      obtain ⟨t1, t2⟩ := t
      obtain ⟨i, hi, e1, e2, hR, hC, hF, hT, hq, h7, h2⟩ := hI
      have e1 : s1 = nI i := e1
      have e2 : t1 = nI i := e2
      have hR : RR s2 t2 := hR
      have hC : FrC μc s2 := hC
      have hF : FrM μm t2 := hF
      have hT : TA t2 tx (t2.1 402 3) := hT
      have hq : t2.1 401 24 = s0 := hq
      have h7 : t2.1 402 7 = nI (x + i) := h7
      have h2 : t2.1 402 2 = μm.1 402 2 := h2
      subst e1 e2
      dsimp only
      unfold lbX11_passHours_17 lbX12_arePassed_7
      have ti := ti_n (k := i) (by omega)
      by_cases hlt : i < M
      · left
        have hv1 : ¬ v ≤ nI i := by
          rw [i_le, ti]
          rcases hM2 with ⟨q1, q2, q3⟩ | ⟨q1, q2⟩ | ⟨q1, q2, q3⟩
          · omega
          · rw [q1, ti_n (by omega)]; omega
          · omega
        have hv2 : ¬ jmin v (nI (9999 - x)) ≤ nI i := by
          rcases hM2 with ⟨q1, q2, q3⟩ | ⟨q1, q2⟩ | ⟨q1, q2, q3⟩
          · omega
          · rw [q2]; exact hv1
          · rw [q3, le_n (by omega) (by omega)]; omega
        rw [if_neg hv2, if_neg hv1, if_neg (by rw [h7, eq_l (n := 9999) (by omega) (by omega)]; omega)]
        obtain ⟨μ1, μ2, g1, g2, g3, g4, g5, g6⟩ := kp_both hR.1
        obtain ⟨hR2, hC2, hF2⟩ := RR_of hR g4 g5 g3 (g6 2 (by omega) (by omega))
        have k24 : μ2.1 401 24 = t2.1 401 24 := by
          have hcb : 0 ≤ (t2.1 402 4).toInt ∧ (t2.1 402 4).toInt ≤ 30 := ob_count hR.1.2.2.2.1
          obtain ⟨N, eN, hN, -⟩ := nz_of (v := t2.1 402 4) (k := 31) hcb.1 (by omega)
          rw [kp_M eN (by omega)] at g2
          cases g2
          split <;> (unfold kp_m; simp (disch := omega) only [wi_c, cp_c])
        obtain ⟨c, μ3, μ4, w1, w2, w3, w4, w5, w6, w7⟩ := ph_pass (RR_ph hR2) (Or.inl rfl) (tx := tx) (by unfold TA at hT ⊢; rw [g6 2 (by omega) (by omega), g6 3 (by omega) (by omega)]; exact hT) (by rw [g6 7 (by omega) (by omega), h7, ti_n (by omega)]; omega)
        obtain ⟨hR3, hC3, hF3⟩ := RR_hr hR2 w3 w4 w5
        rw [g1, g2, Option.bind_some, Option.bind_some, w1, w2, Option.bind_some, Option.bind_some, add_l 1]
        refine ⟨_, _, rfl, rfl, ⟨i + 1, by omega, rfl, rfl, hR3, (hC.tr hC2).tr hC3, (hF.tr hF2).tr hF3, ?_, ?_, ?_, ?_⟩, ?_⟩
        · show TA μ4 tx (μ4.1 402 3)
          unfold TA at hT ⊢
          rw [w5.2.2 2 (by omega), w5.2.2 3 (by omega), g6 2 (by omega) (by omega), g6 3 (by omega) (by omega)]
          exact hT
        · show μ4.1 401 24 = s0 + c
          rw [w6, k24, hq]
        · show μ4.1 402 7 = nI (x + (i + 1))
          rw [w7, g6 7 (by omega) (by omega), h7, add_l 1]
          rfl
        · show μ4.1 402 2 = _
          rw [w5.2.2 2 (by omega), g6 2 (by omega) (by omega), h2]
        · show M - (nI (i + 1)).toNatClampNeg < M - (nI i).toNatClampNeg
          rw [cl_n (by omega), cl_n (by omega)]
          omega
      · right
        have eiM : i = M := by omega
        have hv2 : jmin v (nI (9999 - x)) ≤ nI i := by
          rcases hM2 with ⟨q1, q2, q3⟩ | ⟨q1, q2⟩ | ⟨q1, q2, q3⟩
          · rw [q3, i_le, ti]; omega
          · rw [q2, i_le, ti, q1, ti_n (by omega)]; omega
          · rw [q3, le_n (by omega) (by omega)]; omega
        rw [if_pos hv2]
        rcases hM2 with ⟨q1, q2, q3⟩ | ⟨q1, q2⟩ | ⟨q1, q2, q3⟩
        · rw [if_pos (by rw [i_le, ti]; omega)]
          exact ⟨_, _, rfl, rfl, s0, 1, s2, t2, rfl, rfl, hR, hC, hF, hq, Or.inl ⟨rfl, q3⟩, h2⟩
        · rw [if_pos (by rw [i_le, ti, q1, ti_n (by omega)]; omega)]
          exact ⟨_, _, rfl, rfl, s0, 1, s2, t2, rfl, rfl, hR, hC, hF, hq, Or.inl ⟨rfl, q2⟩, h2⟩
        · rw [if_neg (by rw [i_le, ti]; omega), if_pos (by rw [h7]; show nI _ = nI 9999; congr 1; omega)]
          refine ⟨_, _, rfl, rfl, s0, 0, s2, t2, rfl, rfl, hR, hC, hF, hq, Or.inr ⟨rfl, fun e => ?_⟩, h2⟩
          rw [q3] at e
          rw [← e, ti_n (by omega)] at q2
          omega)
    go_fuel go_fuel (0, 0, μc) (0, pm_wi μm 401 24 0) ⟨0, by omega, rfl, rfl, h24.1, FrC.rfl' _, h24.2, by rw [wi_c (by omega)]; unfold TA at f2 ⊢; rw [wi_c (by omega)]; exact f2, wi_e, by rw [wi_c (by omega), ex]; rfl, by rw [wi_c (by omega)]⟩ (by show M - _ < go_fuel; unfold go_fuel; omega) (by show M - _ < go_fuel; unfold go_fuel; omega)
  obtain ⟨c, q, μ1, μ2, rfl, rfl, g1, g2, g3, g4, g5, g6⟩ := k3
  refine ⟨c, q, μ1, μ2, ?_, ?_, g1, g2, g3, g4, g5, g6⟩
  · unfold fX11_passHours
    rw [f1, Option.bind_some, k1]
    rfl
  · unfold fX12_arePassed
    simp only [go_let]
    rw [k2]
    rfl
theorem c_hour (v : Int32) : BOTH (fun μ => fX11_hour μ v) (fun μ => fX12_hour μ v) := by
  intro μc μm h
  have hP := RR_ph h
  have hb := ob_hour (ph_ob hP)
  dsimp only
  unfold fX11_hour fX12_hour
  rw [q_isIn, q_ite]
  simp only [i_lt, i_le, show (1 : Int32).toInt = 1 from rfl, show (60 : Int32).toInt = 60 from rfl, show (9999 : Int32).toInt = 9999 from rfl]
  by_cases hv : 1 ≤ v.toInt ∧ v.toInt ≤ 60
  · have t9 : (9999 : Int32).toInt = 9999 := rfl
    rw [if_neg (by omega), if_neg (by omega), if_pos hv, ph_hour hP, ti_sub (by rw [t9]; omega) (by rw [t9]; omega), t9, ti_add (by omega) (by omega)]
    by_cases h9 : 9999 < (μm.1 402 7).toInt + v.toInt
    · rw [if_pos h9, if_neg (by omega)]
      exact ⟨-1, μc, μm, rfl, rfl, h, FrC.rfl' _, FrM.rfl' _⟩
    · rw [if_neg h9, if_pos (by omega)]
      obtain ⟨r, q, μ1, μ2, g1, g2, g3, g4, g5, g6, g7, -⟩ := hr_both h v
      have ej : jmin v (9999 - μm.1 402 7) = v := by
        unfold jmin
        rw [if_neg]
        rw [i_lt, ti_sub (by rw [t9]; omega) (by rw [t9]; omega), t9]
        omega
      rw [ej] at g1 g7
      rcases g7 with ⟨rfl, -⟩ | ⟨-, g7⟩
      · rw [g1, g2, Option.bind_some, Option.bind_some, if_neg (show ¬ (1 : Int32) = 0 by decide)]
        exact ⟨r, μ1, μ2, rfl, by rw [← g6], g3, g4, g5⟩
      · exact absurd rfl g7
  · rw [if_neg hv]
    refine ⟨-1, μc, μm, ?_, rfl, h, FrC.rfl' _, FrM.rfl' _⟩
    by_cases h1 : v.toInt < 1
    · rw [if_pos h1]
    · rw [if_neg h1, if_pos (by omega)]
