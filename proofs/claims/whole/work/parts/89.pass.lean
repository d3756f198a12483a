/-! ===== a NAME in a CELL goes on; all of an HOUR ===== -/
theorem TA_hm {z : Nat} {bk : Bool} {μ μ' : PM} {tx : Option Nat} (h : TA μ tx (μ.1 402 3)) (hm : HM z bk μ μ') (hz : 4 ≤ z) : TA μ' tx (μ'.1 402 3) := by
  have e2 := hm.2.2 2 (by omega)
  have e3 := hm.2.2 3 (by omega)
  unfold TA at h ⊢
  rw [e2, e3]
  exact h
theorem CL_z {r : Int32} {a b c : PM} (h : b.1 401 24 = a.1 401 24) (h2 : CL r b c) : CL r a c := by
  unfold CL at h2 ⊢
  rw [h] at h2
  exact h2
section PSs
variable {bk : Bool} {o : Nat} {μc μm : PM}
theorem vb_pl : ∀ n, n < 6 → (if 7 + 2 * n < 2 then 7 + 2 * n else 5 + (7 + 2 * n)) = 12 + 2 * n := by decide
theorem vb_sz : ∀ n, n < 6 → (if 8 + 2 * n < 2 then 8 + 2 * n else 5 + (8 + 2 * n)) = 13 + 2 * n := by decide
theorem ph_setP (h : PH bk true o μc μm) (ho : PO o) {n : Nat} {v : Int32} (hn : n < 6) (hv : (-1 ≤ v.toInt ∧ v.toInt ≤ 10) ∨ (20 ≤ v.toInt ∧ v.toInt ≤ 24)) : PH bk true o (pm_wi μc (o + 1) n v) (pm_wi μm 402 (12 + 2 * n) v) :=
  PH_set h ho (j := 7 + 2 * n) (by omega) (by omega) (vw_place n hn) (vb_pl n hn).symm (OA_place h.2.2.2.2.1 hn hv)
theorem ph_setS (h : PH bk true o μc μm) (ho : PO o) {n : Nat} {v : Int32} (hn : n < 6) (hv : 1 ≤ v.toInt ∧ v.toInt ≤ 5) : PH bk true o (pm_wi μc (o + 2) n v) (pm_wi μm 402 (13 + 2 * n) v) :=
  PH_set h ho (j := 8 + 2 * n) (by omega) (by omega) (vw_size n hn) (vb_sz n hn).symm (OA_w h.2.2.2.2.1 (by omega) (by rw [(vb_size n hn).1, (vb_size n hn).2]; omega) (fun m hm q => by omega) (fun m hm q => Or.inl hv.1))
theorem ph_claimLoop {n F : Nat} {v : Int32} {tx : Option Nat} (h : PH bk true o μc μm) (ho : PO o) (hn : n < 6) (hv : v = μm.1 402 (12 + 2 * n)) (hvb : 0 ≤ v.toInt ∧ v.toInt ≤ 9) (hT : TA μm tx (μm.1 402 3)) (eF : μm.1 402 1 = nI F) (hF : F ≤ 5) :
    ∃ r r', lp (fun s : Int32 × PM => lbX0_drift_173 tx o (nI n) v s.1 s.2) go_fuel (0, μc) = some r ∧ lp (fun s : Int32 × PM => lbX12_claimBy_2 (nI n) s.1 s.2) go_fuel (0, μm) = some r' ∧
      ((∃ μ1 μ2, r = .inr (0, μ1) ∧ r' = .inr μ2 ∧ PH bk true o μ1 μ2 ∧ LC μc μ1 ∧ LM μm μ2) ∨ ∃ (f : Nat) (μ1 μ2 : PM), f < F ∧ r = .inl (nI f, μ1) ∧ r' = .inl (nI f, μ2) ∧ PH bk true o μ1 μ2 ∧ LC μc μ1 ∧ LM μm μ2) := by
  have hvc : v = vz_cell (μm.1 402 (12 + 2 * n)) := by
    unfold vz_cell
    rw [← hv, if_pos hvb]
  refine lp_two (f := fun s : Int32 × PM => lbX0_drift_173 tx o (nI n) v s.1 s.2) (g := fun s : Int32 × PM => lbX12_claimBy_2 (nI n) s.1 s.2)
    (fun s t => ∃ f : Nat, f ≤ F ∧ s.1 = nI f ∧ t.1 = nI f ∧ PH bk true o s.2 t.2 ∧ LC μc s.2 ∧ LM μm t.2) (fun s => F - s.1.toNatClampNeg)
    (fun r r' => (∃ μ1 μ2, r = .inr (0, μ1) ∧ r' = .inr μ2 ∧ PH bk true o μ1 μ2 ∧ LC μc μ1 ∧ LM μm μ2) ∨ ∃ (f : Nat) (μ1 μ2 : PM), f < F ∧ r = .inl (nI f, μ1) ∧ r' = .inl (nI f, μ2) ∧ PH bk true o μ1 μ2 ∧ LC μc μ1 ∧ LM μm μ2)
    (fun s t hI => ?_) go_fuel go_fuel (0, μc) (0, μm) ⟨0, by omega, rfl, rfl, h, LC.rfl' _, LM.rfl' _⟩ (by show F - _ < go_fuel; unfold go_fuel; omega) (by show F - _ < go_fuel; unfold go_fuel; omega)
  obtain ⟨s1, s2⟩ := s
  obtain ⟨t1, t2⟩ := t
  obtain ⟨f, hf, e1, e2, hP, hC, hM⟩ := hI
  have e1 : s1 = nI f := e1
  have e2 : t1 = nI f := e2
  have hP : PH bk true o s2 t2 := hP
  have hC : LC μc s2 := hC
  have hM : LM μm t2 := hM
  subst e1 e2
  have r402 : t2.1 402 = μm.1 402 := hM 402 (by omega) (by omega)
  dsimp only
  have next : ∀ (μ1 μ2 : PM), PH bk true o μ1 μ2 → LC μc μ1 → LM μm μ2 → ¬ F ≤ f → (∃ s' t', (some (Sum.inl ((nI f + 1 : Int32), μ1)) : Option ((Int32 × PM) ⊕ ((Int32 × PM) ⊕ (Int32 × PM)))) = some (.inl s') ∧ (some (Sum.inl ((nI f + 1 : Int32), μ2)) : Option ((Int32 × PM) ⊕ ((Int32 × PM) ⊕ PM))) = some (.inl t') ∧ (∃ f : Nat, f ≤ F ∧ s'.1 = nI f ∧ t'.1 = nI f ∧ PH bk true o s'.2 t'.2 ∧ LC μc s'.2 ∧ LM μm t'.2) ∧ F - s'.1.toNatClampNeg < F - f) := fun μ1 μ2 k1 k2 k3 k4 => by
    refine ⟨_, _, rfl, rfl, ⟨f + 1, by omega, add_l 1 f, add_l 1 f, k1, k2, k3⟩, ?_⟩
    show F - (nI f + 1).toNatClampNeg < _
    rw [add_l 1, cl_n (by omega)]
    omega
  unfold lbX0_drift_173 lbX12_claimBy_2
  rw [ph_fams hP, r402, eF]
  have hle : nI F ≤ nI f ↔ F ≤ f := le_n (by omega) (by omega)
  by_cases hlt : F ≤ f
  · right
    rw [if_pos (hle.mpr hlt), if_pos (hle.mpr hlt)]
    exact ⟨_, _, rfl, rfl, Or.inl ⟨s2, t2, rfl, rfl, hP, hC, hM⟩⟩
  have hlt' : ¬ nI F ≤ nI f := fun q => hlt (hle.mp q)
  rw [if_neg hlt', if_neg hlt', if_neg (show ¬ (5 : Int32) ≤ nI f by rw [l_le (n := 5) (by omega) (by omega)]; omega), chk_n (show f < 5 by omega) (by omega), cl_n (show f < 2147483648 by omega), l_add 24, chk_n (show 24 + f < 1792 by omega) (by omega), (q_getM hn).1, Option.bind_some, cl_n (show 24 + f < 2147483648 by omega), ph_stand hP (by omega), r402, ← hv]
  unfold jjX0_drift_223_173 jjX0_drift_224_173
  by_cases e : μm.1 402 (24 + f) = v
  case neg =>
    rw [if_neg e, if_neg e, if_pos rfl]
    exact Or.inl (next s2 t2 hP hC hM hlt)
  rw [if_pos e, if_pos e, chk_n (show f < 5 by omega) (by omega), chk_n hn (by omega), cl_n (show n < 2147483648 by omega), ph_net hP (by omega), ph_size hP hn, r402, l_add 42, chk_n (show 42 + f < 1792 by omega) (by omega), (q_getM hn).2, Option.bind_some, cl_n (show 42 + f < 2147483648 by omega), r402]
  by_cases e2 : μm.1 402 (42 + f) < μm.1 402 (13 + 2 * n)
  · rw [if_pos e2, if_pos e2, if_pos rfl]
    exact Or.inl (next s2 t2 hP hC hM hlt)
  rw [if_neg e2, if_neg e2, if_neg (by decide)]
  obtain ⟨r, μ1, μ2, g1, g2, g3, g4, g5⟩ := ph_claims hP ho hn (show f < 5 by omega) (v := v) (by rw [r402]; exact hvc) (tx := tx) (by unfold TA at hT ⊢; rw [r402]; exact hT)
  rw [g1, g2, Option.bind_some, Option.bind_some]
  dsimp only
  by_cases e3 : r ≤ 0
  · rw [if_pos e3, if_neg (by rw [i_lt]; rw [i_le] at e3; omega)]
    exact Or.inl (next μ1 μ2 g3 (hC.tr g4) (hM.tr g5) hlt)
  · rw [if_neg e3, if_pos (by rw [i_lt]; rw [i_le] at e3; omega)]
    exact Or.inr ⟨_, _, rfl, rfl, Or.inr ⟨f, μ1, μ2, by omega, rfl, rfl, g3, hC.tr g4, hM.tr g5⟩⟩
theorem ph_claimBy {n : Nat} {v : Int32} {tx : Option Nat} (h : PH bk true o μc μm) (ho : PO o) (hn : n < 6) (hv : v = μm.1 402 (12 + 2 * n)) (hvb : 0 ≤ v.toInt ∧ v.toInt ≤ 9) (hT : TA μm tx (μm.1 402 3)) :
    ∃ r μc' μm', jjX0_drift_170 μc tx o (nI n) v = some (r, μc') ∧ fX12_claimBy μm (nI n) = some μm' ∧ PH bk true o μc' μm' ∧ HC o μc μc' ∧ HM 8 bk μm μm' ∧ CL r μm μm' := by
  have hfb := ob_families (ph_ob h)
  obtain ⟨F, eF, hF, -⟩ := nz_of (v := μm.1 402 1) (k := 6) hfb.1 (by omega)
  obtain ⟨r, r', k1, k2, k3⟩ := ph_claimLoop h ho hn hv hvb hT eF (by omega)
  unfold jjX0_drift_170 fX12_claimBy
  rw [k1, k2, Option.bind_some, Option.bind_some]
  rcases k3 with ⟨μ1, μ2, rfl, rfl, g1, g2, g3⟩ | ⟨f, μ1, μ2, hfF, rfl, rfl, g1, g2, g3⟩
  · exact ⟨0, μ1, μ2, rfl, rfl, g1, g2.hc o, g3.hm 8 bk, Or.inl ⟨rfl, by rw [g3 401 (by omega) (by omega)]⟩⟩
  · show ∃ r μc' μm', (go_chk (nI n) 6 <| go_let (pm_wi μ1 (o + 1) (nI n).toNatClampNeg (20 + nI f)) fun μ9 => (fX10_writeLine μ9 o (nI n) 0 (nI f)).bind fun q11 => some ((1, q11))) = some (r, μc') ∧ ((fX12_put μ2 (nI n) 0 (20 + nI f)).bind fun q8 => go_let (pm_wi q8 401 24 ((q8.1 401 24) + 1)) fun μ9 => (fX12_write μ9 (nI n) 0 (nI f)).bind fun q10 => some (q10)) = some μm' ∧ _
    simp only [go_let]
    rw [chk_n hn (by omega), cl_n (by omega), l_add 20, (q_putM _ hn).1, Option.bind_some]
    have hP2 := ph_setP g1 ho hn (v := nI (20 + f)) (Or.inr (by rw [ti_n (by omega)]; omega))
    have hP3 : PH bk true o (pm_wi μ1 (o + 1) n (nI (20 + f))) (pm_wi (pm_wi μ2 402 (12 + 2 * n) (nI (20 + f))) 401 24 ((pm_wi μ2 402 (12 + 2 * n) (nI (20 + f))).1 401 24 + 1)) := PH_m hP2 (wi_c (by omega)) (wi_c (by omega)) (wi_i (by omega))
    obtain ⟨μ3, μ4, w1, w2, w3, w4, w5, w6, w7⟩ := ph_line hP3 ho hn (w := 0) (by omega) (p := f) (by omega)
    rw [show (0 : Int32) = nI 0 from rfl, w1, w2, Option.bind_some, Option.bind_some]
    refine ⟨1, μ3, μ4, rfl, rfl, w3, ((g2.hc o).tr (HC.wi (c := 1) μ1 (by omega))).tr w4, (((g3.hm 8 bk).tr (HM.wi μ2 (by omega))).tr ⟨fun c hc _ _ _ => wi_c hc, fun i hi => wi_i hi, fun k _ => by rw [wi_c (by omega)]⟩).tr w5, Or.inr ⟨rfl, ?_⟩⟩
    rw [w6 401 (by omega), wi_e, wi_c (by omega), g3 401 (by omega) (by omega)]
/-- behind a STONE, or not: it may be claimed -/
theorem ph_goOn {n : Nat} {tx : Option Nat} (h : PH bk true o μc μm) (ho : PO o) (hn : n < 6) (hnn : (n : Int) < (μm.1 402 0).toInt) (hv : 0 ≤ (μm.1 402 (12 + 2 * n)).toInt ∧ (μm.1 402 (12 + 2 * n)).toInt ≤ 9) (hT : TA μm tx (μm.1 402 3)) :
    ∃ r μc' μm', fX0_drift μc tx o (nI n) = some (r, μc') ∧ fX12_goOn μm (nI n) = some μm' ∧ PH bk true o μc' μm' ∧ HC o μc μc' ∧ HM 8 bk μm μm' ∧ CL r μm μm' := by
  -- it goes on by d
  have go : ∀ (ν ω : PM) (d : Int32), PH bk true o ν ω → HC o μc ν → HM 8 bk μm ω → ω.1 401 24 = μm.1 401 24 → ω.1 402 (12 + 2 * n) = μm.1 402 (12 + 2 * n) → ω.1 402 (13 + 2 * n) = μm.1 402 (13 + 2 * n) → (d = 1 ∨ d = 2) → ∃ r μc' μm', jjX0_drift_57 ν tx o (nI n) (μm.1 402 (12 + 2 * n)) d = some (r, μc') ∧ jjX12_goOn_59 ω (nI n) (μm.1 402 (12 + 2 * n)) d = some μm' ∧ PH bk true o μc' μm' ∧ HC o μc μc' ∧ HM 8 bk μm μm' ∧ CL r μm μm' := by
    intro ν ω d hP hC hM h24 hpl hsz hd
    obtain ⟨m, em, hm, hm2⟩ := nz_of (v := μm.1 402 (12 + 2 * n)) (k := 10) hv.1 (by omega)
    obtain ⟨e, he1, he2⟩ : ∃ e : Nat, d = nI e ∧ 1 ≤ e ∧ e ≤ 2 := by
      rcases hd with rfl | rfl
      · exact ⟨1, rfl, by omega⟩
      · exact ⟨2, rfl, by omega⟩
    rw [em, he1]
    unfold jjX0_drift_57 jjX12_goOn_59 jjX12_goOn_76
    simp only [go_let]
    rw [nI_add]
    rw [chk_n hn (by omega), cl_n (show n < 2147483648 by omega)]
    have k9 : nI (m + e) < 9 ↔ m + e < 9 := lt_l (n := 9) (by omega) (by omega)
    have j9 : (9 : Int32) ≤ nI (m + e) ↔ 9 ≤ m + e := l_le (n := 9) (by omega) (by omega)
    by_cases h9 : m + e < 9
    case neg =>
      rw [if_neg (fun q => h9 (k9.mp q)), if_pos (j9.mpr (by omega)), (q_putM _ hn).1, Option.bind_some, if_neg (fun q => h9 (k9.mp q)), chk_n hn (by omega)]
      have hP2 := ph_setP hP ho hn (v := 10) (Or.inl (by decide))
      obtain ⟨μ3, μ4, w1, w2, w3, w4, w5, w6, w7⟩ := ph_line hP2 ho hn (w := 1) (by omega) (p := 9) (by omega)
      rw [show (1 : Int32) = nI 1 from rfl, show (9 : Int32) = nI 9 from rfl, w1, w2, Option.bind_some, Option.bind_some]
      refine ⟨0, μ3, μ4, rfl, rfl, w3, (hC.tr (HC.wi (c := 1) ν (by omega))).tr w4, (hM.tr (HM.wi ω (by omega))).tr w5, Or.inl ⟨rfl, ?_⟩⟩
      rw [w6 401 (by omega), wi_c (by omega), h24]
    rw [if_pos (k9.mpr h9), if_neg (fun q => absurd (j9.mp q) (by omega)), (q_putM _ hn).1, Option.bind_some, if_pos (k9.mpr h9)]
    have hP2 := ph_setP hP ho hn (v := nI (m + e)) (Or.inl (by rw [ti_n (by omega)]; omega))
    have hC2 := hC.tr (HC.wi (c := 1) (i := n) (v := nI (m + e)) ν (by omega))
    have hM2 := hM.tr (HM.wi (z := 8) (bk := bk) (k := 12 + 2 * n) (v := nI (m + e)) ω (by omega))
    have h242 : (pm_wi ω 402 (12 + 2 * n) (nI (m + e))).1 401 24 = μm.1 401 24 := by rw [wi_c (by omega)]; exact h24
    have hpl2 : (pm_wi ω 402 (12 + 2 * n) (nI (m + e))).1 402 (12 + 2 * n) = nI (m + e) := wi_e
    have hsz2 : (pm_wi ω 402 (12 + 2 * n) (nI (m + e))).1 402 (13 + 2 * n) = μm.1 402 (13 + 2 * n) := by rw [wi_i (by omega)]; exact hsz
    generalize pm_wi ν (o + 1) n (nI (m + e)) = ν2 at hP2 hC2 ⊢
    generalize pm_wi ω 402 (12 + 2 * n) (nI (m + e)) = ω2 at hP2 hM2 h242 hpl2 hsz2 ⊢
    -- claimed
    have fin : ∀ (α β : PM), PH bk true o α β → HC o μc α → HM 8 bk μm β → β.1 401 24 = μm.1 401 24 → β.1 402 (12 + 2 * n) = nI (m + e) → ∃ r μc' μm', jjX0_drift_170 α tx o (nI n) (nI (m + e)) = some (r, μc') ∧ jjX12_goOn_99 β (nI n) = some μm' ∧ PH bk true o μc' μm' ∧ HC o μc μc' ∧ HM 8 bk μm μm' ∧ CL r μm μm' := fun α β hP hC hM h24 hpl => by
      obtain ⟨r, μ1, μ2, g1, g2, g3, g4, g5, g6⟩ := ph_claimBy hP ho hn hpl.symm (by rw [ti_n (by omega)]; omega) (TA_hm hT hM (by omega))
      refine ⟨r, μ1, μ2, g1, ?_, g3, hC.tr g4, hM.tr g5, CL_z h24 g6⟩
      unfold jjX12_goOn_99
      rw [g2]
      rfl
    have hszb : 1 ≤ (μm.1 402 (13 + 2 * n)).toInt := by
      have := h.2.2.2.2.1.2.1.2.2 n (by rw [vz_cur_lo (by omega)]; exact hnn) hn
      rw [vz_cur_lo (by omega), if_neg (by omega), show 5 + (8 + 2 * n) = 13 + 2 * n by omega] at this
      exact this
    have hszt := ob_size (ph_ob h) hn
    unfold fX12_breakBy jjX0_drift_119 jjX0_drift_120
    simp only [go_let]
    rw [(q_getM hn).1, Option.bind_some, hpl2, ← bitE, ph_stones hP2, chk_n hn (by omega), ph_size hP2 hn, (q_getM hn).2, Option.bind_some, hsz2]
    by_cases hb : fX11_hasBit (ω2.1 402 10) (nI (m + e)) = 0
    · rw [if_pos hb, if_pos hb, if_pos trivial, Option.bind_some]
      exact fin ν2 ω2 hP2 hC2 hM2 h242 hpl2
    rw [if_neg hb, if_neg hb]
    by_cases h1 : μm.1 402 (13 + 2 * n) = 1
    · rw [if_pos (show μm.1 402 (13 + 2 * n) ≤ 1 by rw [h1]; decide), if_pos h1, if_pos trivial, Option.bind_some]
      exact fin ν2 ω2 hP2 hC2 hM2 h242 hpl2
    have h1' : ¬ (μm.1 402 (13 + 2 * n)).toInt = 1 := fun q => h1 (i_eq.mpr q)
    have t1 : (1 : Int32).toInt = 1 := rfl
    rw [if_neg (by rw [i_le, t1]; omega), if_neg h1, if_neg (by decide)]
    obtain ⟨dr, hdr, d1, d2⟩ := ph_draw10 hP2 ho
    have hxv : ∃ xv : Nat, xv < 30773 ∧ fX10_renewX ν2 o = pm_wi ν2 o 10 (nI xv) ∧ ∀ β : PM, β.1 402 8 = ω2.1 402 8 → fX12_anew β = pm_wi β 402 8 (nI xv) := by
      obtain ⟨xv, x1, x2, x3⟩ := q_x (ob_x (ph_ob hP2))
      refine ⟨xv, x1, ?_, fun β hβ => ?_⟩
      · unfold fX10_renewX
        simp only [go_let]
        rw [ph_x hP2, x2]
      · unfold fX12_anew
        simp only [go_let]
        rw [hβ, x3]
    obtain ⟨xv, x1, x2, x3⟩ := hxv
    rw [d1, x2]
    dsimp only
    obtain ⟨r, μ1, μ2, b1, b2, b3, b4, b5, b6⟩ := ph_breaks (PH_xc hP2 ho (nI xv)) ho hn (v := nI (m + e)) (by rw [ti_n (by omega)]; omega) (tx := tx) (TA_hm hT hM2 (by omega))
    have r402 : μ2.1 402 = ω2.1 402 := b5 402 (by omega) (by omega)
    rw [b1, b2, Option.bind_some, Option.bind_some]
    dsimp only
    have d3 : fX12_drawnBy μ2 10 = some (nI dr, pm_wi μ2 402 8 (nI xv)) := by
      have : fX12_drawnBy μ2 10 = some ((jrem (μ2.1 402 8) 10), fX12_anew μ2) := rfl
      have d2' : fX12_drawnBy ω2 10 = some ((jrem (ω2.1 402 8) 10), fX12_anew ω2) := rfl
      rw [d2'] at d2
      have d2'' : jrem (ω2.1 402 8) 10 = nI dr := congrArg Prod.fst (Option.some.inj d2)
      rw [this, r402, d2'', x3 μ2 (by rw [r402])]
    have hP3 : PH bk true o μ1 (pm_wi μ2 402 8 (nI xv)) := PH_xm b3 (by rw [b4.1 o (by rcases ho with rfl | rfl <;> omega) (by rcases ho with rfl | rfl <;> omega), wi_e]) (OA_x b3.2.2.2.2.1 x1)
    have hC3 : HC o μc μ1 := (hC2.tr (HC.wi (c := 0) ν2 (by omega))).tr (b4.hc o)
    have hM3 : HM 8 bk μm (pm_wi μ2 402 8 (nI xv)) := (hM2.tr (b5.hm 8 bk)).tr (HM.wi μ2 (by omega))
    have h243 : (pm_wi μ2 402 8 (nI xv)).1 401 24 = μm.1 401 24 := by rw [wi_c (by omega), b5 401 (by omega) (by omega)]; exact h242
    have hpl3 : (pm_wi μ2 402 8 (nI xv)).1 402 (12 + 2 * n) = nI (m + e) := by rw [wi_i (by omega), r402]; exact hpl2
    have hsz3 : (pm_wi μ2 402 8 (nI xv)).1 402 (13 + 2 * n) = μm.1 402 (13 + 2 * n) := by rw [wi_i (by omega), r402]; exact hsz2
    rw [d3, Option.bind_some]
    dsimp only
    generalize pm_wi μ2 402 8 (nI xv) = ω3 at hP3 hM3 h243 hpl3 hsz3 ⊢
    by_cases hlt : r ≤ nI dr
    · rw [if_pos hlt, if_neg (by rw [i_lt]; rw [i_le] at hlt; omega), Option.bind_some]
      exact fin μ1 ω3 hP3 hC3 hM3 h243 hpl3
    rw [if_neg hlt, if_pos (by rw [i_lt]; rw [i_le] at hlt; omega), chk_n hn (by omega), chk_n hn (by omega), cl_n (show n < 2147483648 by omega), (q_getM hn).2, Option.bind_some, hsz3, (q_putM _ hn).2, Option.bind_some, ph_size hP3 hn, hsz3]
    obtain ⟨z, ez, hz, hz2⟩ := nz_of (v := μm.1 402 (13 + 2 * n)) (k := 6) hszt.1 (by omega)
    have e2 : (μm.1 402 (13 + 2 * n) + 1) / 2 = nI ((z + 1) / 2) := by rw [ez, add_l 1, div_l (n := 2) (by omega) (by omega)]
    rw [e2]
    have hP4 := ph_setS hP3 ho hn (v := nI ((z + 1) / 2)) (by rw [ti_n (by omega)]; omega)
    obtain ⟨μ5, μ6, w1, w2, w3, w4, w5, w6, w7⟩ := ph_line hP4 ho hn (w := 2) (by omega) (p := m + e) (by omega)
    rw [show (2 : Int32) = nI 2 from rfl, w1, w2, Option.bind_some, Option.bind_some, Option.bind_some]
    exact fin μ5 μ6 w3 ((hC3.tr (HC.wi (c := 2) μ1 (by omega))).tr w4) ((hM3.tr (HM.wi ω3 (by omega))).tr w5) (by rw [w6 401 (by omega), wi_c (by omega)]; exact h243) (by rw [w7 _ (by omega) (by omega), wi_i (by omega)]; exact hpl3)
  have on : ∀ (ν ω : PM), PH bk true o ν ω → HC o μc ν → HM 8 bk μm ω → ω.1 401 24 = μm.1 401 24 → ω.1 402 (12 + 2 * n) = μm.1 402 (12 + 2 * n) → ω.1 402 (13 + 2 * n) = μm.1 402 (13 + 2 * n) → ∃ r μc' μm', jjX0_drift_34 ν tx o (nI n) (μm.1 402 (12 + 2 * n)) = some (r, μc') ∧ jjX12_goOn_31 ω (nI n) = some μm' ∧ PH bk true o μc' μm' ∧ HC o μc μc' ∧ HM 8 bk μm μm' ∧ CL r μm μm' := by
    intro ν ω hP hC hM h24 hpl hsz
    unfold jjX0_drift_34 jjX0_drift_35 jjX12_goOn_31 jjX12_goOn_32
    rw [if_pos rfl, if_pos rfl, (q_getM hn).1, Option.bind_some, hpl, ph_warm hP]
    by_cases hw : ω.1 402 9 ≤ 4
    · rw [if_pos hw, if_pos hw]
      exact go ν ω 1 hP hC hM h24 hpl hsz (Or.inl rfl)
    · rw [if_neg hw, if_neg hw]
      exact go ν ω 2 hP hC hM h24 hpl hsz (Or.inr rfl)
  unfold fX0_drift fX12_goOn
  simp only [go_let]
  rw [chk_n hn (by omega), cl_n (by omega), (q_getM hn).1, Option.bind_some, ph_place h hn, ph_eddies h, ← bitE]
  by_cases hb : fX11_hasBit (μm.1 402 29) (μm.1 402 (12 + 2 * n)) = 0
  · rw [if_pos hb, if_pos hb]
    exact on μc μm h (HC.rfl' _ _) (HM.rfl' _ _ _) rfl rfl rfl
  rw [if_neg hb, if_neg hb]
  obtain ⟨d, hd, d1, d2⟩ := ph_draw2 h ho
  obtain ⟨p1, p2, p3, p4, p5⟩ := ph_renew h ho
  rw [d1, d2, Option.bind_some]
  dsimp only
  by_cases hd0 : nI d = 0
  · rw [if_pos hd0, if_pos hd0]
    unfold jjX0_drift_35 jjX12_goOn_32 jjX12_goOn_99
    rw [if_neg (by decide), if_neg (by decide)]
    obtain ⟨r, μ1, μ2, g1, g2, g3, g4, g5, g6⟩ := ph_claimBy p1 ho hn (v := μm.1 402 (12 + 2 * n)) (by rw [p5 _ (by omega)]) hv (TA_hm hT p3 (by omega))
    rw [g2]
    exact ⟨r, μ1, μ2, g1, rfl, g3, p2.tr g4, p3.tr g5, CL_z (by rw [p4]) g6⟩
  · rw [if_neg hd0, if_neg hd0]
    exact on _ _ p1 p2 p3 (by rw [p4]) (p5 _ (by omega)) (p5 _ (by omega))
end PSs
