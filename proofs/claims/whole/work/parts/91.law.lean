/-! ===== law, whose, foretold ===== -/
theorem RR_l {μc μm μc' μm' : PM} (h : RR μc μm) (hC : LC μc μc') (hM : LM μm μm') : RR μc' μm' ∧ FrC μc μc' ∧ FrM μm μm' := by
  have hEC : EC μc μc' := ⟨hC.1 0 (by omega) (by omega), fun c h1 h2 => hC.1 c (by omega) (by omega), fun c h1 h2 => hC.1 c (by omega) (by omega), fun c h1 => hC.1 c (by omega) (by omega), hC.2⟩
  have e1 := hM 401 (by omega) (by omega)
  have e2 := hM 402 (by omega) (by omega)
  have hEM : EM μm μm' := ⟨⟨by rw [e1], by rw [e1], by rw [e1], by rw [e1]⟩, hM 403 (by omega) (by omega), hM 404 (by omega) (by omega), hM 405 (by omega) (by omega), fun c hc => hM c (by omega) (by omega)⟩
  exact RR_of h hEC hEM (by rw [e2]; exact VV_eq h.1 (fun c h1 h2 => hC.1 c (by omega) (by omega))) (by rw [e2])
theorem q_cellOfC {bk xk : Bool} {o n : Nat} {μc μm : PM} (h : PH bk xk o μc μm) (hn : n < 6) : fX10_cellOf μc o (nI n) = some (vz_cell (μm.1 402 (12 + 2 * n))) := by
  unfold fX10_cellOf jjX10_cellOf_20
  rw [if_neg (nI_pos (by omega)), if_neg (by rw [l_le (n := 6) (by omega) (by omega)]; omega), chk_n hn (by omega), cl_n (by omega), ph_place h hn, q_cellC, q_ite]
  unfold vz_cell
  split <;> rfl
theorem c_law (n f w : Int32) : BOTH (fun μ => fX11_law μ n f w) (fun μ => fX12_law μ n f w) := by
  intro μc μm h
  have hP := RR_ph h
  have hO := ph_ob hP
  have hnb := ob_names hO
  have hfb := ob_families hO
  dsimp only
  unfold fX11_law fX12_law jjX12_law_24
  rw [q_nameC h.1.1 hO, q_nameM hO, q_famC h.1.1 hO, q_famM hO]
  simp only [q_ite]
  by_cases hn : 0 ≤ n.toInt ∧ n.toInt < (μm.1 402 0).toInt
  case neg =>
    rw [if_neg hn, if_neg hn]
    exact ⟨-100, μc, μm, rfl, rfl, h, FrC.rfl' _, FrM.rfl' _⟩
  rw [if_pos hn, if_pos hn]
  obtain ⟨k, rfl, hk, -⟩ := nz_of (v := n) (k := 6) hn.1 (by omega)
  have hk6 : k < 6 := by omega
  obtain ⟨tx, f1, f2⟩ := ph_find hP
  rw [f1, Option.bind_some, q_cellOfC hP hk6, Option.bind_some]
  by_cases w0 : w = 0
  · subst w0
    rw [if_pos rfl, if_neg (by decide), if_pos rfl]
    obtain ⟨r, μ1, μ2, g1, g2, g3, g4, g5⟩ := ph_melts hP (Or.inl rfl) hk6 f2
    rw [g1, g2, Option.bind_some, Option.bind_some]
    exact ⟨r, μ1, μ2, rfl, rfl, RR_l h g4 g5⟩
  rw [if_neg w0, if_neg w0]
  by_cases w1 : w = 1
  · subst w1
    rw [if_pos rfl, if_neg (by decide), if_pos rfl, q_cellOfM hk6, Option.bind_some]
    obtain ⟨r, μ1, μ2, g1, g2, g3, g4, g5, -⟩ := ph_breaks hP (Or.inl rfl) hk6 (vz_cell_b _) f2
    rw [g1, g2, Option.bind_some, Option.bind_some]
    exact ⟨r, μ1, μ2, rfl, rfl, RR_l h g4 g5⟩
  rw [if_neg w1, if_neg w1]
  by_cases w2 : w = 2
  · subst w2
    rw [if_pos rfl, if_pos rfl, if_pos rfl]
    by_cases hf : 0 ≤ f.toInt ∧ f.toInt < (μm.1 402 1).toInt
    · rw [if_pos hf, if_pos hf]
      obtain ⟨g, rfl, hg, -⟩ := nz_of (v := f) (k := 5) hf.1 (by omega)
      obtain ⟨r, μ1, μ2, g1, g2, g3, g4, g5⟩ := ph_claims hP (Or.inl rfl) hk6 (show g < 5 by omega) rfl f2
      rw [g1, g2, Option.bind_some, Option.bind_some]
      exact ⟨r, μ1, μ2, rfl, rfl, RR_l h g4 g5⟩
    · rw [if_neg hf, if_neg hf]
      exact ⟨-100, μc, μm, rfl, rfl, h, FrC.rfl' _, FrM.rfl' _⟩
  · rw [if_neg w2, if_neg w2, if_neg w2]
    exact ⟨-100, μc, μm, rfl, rfl, h, FrC.rfl' _, FrM.rfl' _⟩
/-- the reference looks on, though it knows -/
theorem wh_idle {v1 v2 : Int32} {S : Nat} (hS : S ≤ 8) : ∀ r i μ fuel, i + r = S → μ.1 402 6 = nI S → r < fuel → lp (fun s : Int32 × Int32 × PM => lbX12_whose_19 v1 v2 s.1 s.2.1 s.2.2) fuel (0, nI i, μ) = some (.inl (0, μ)) := by
  intro r
  induction r with
  | zero =>
    intro i μ fuel hi h6 hf
    obtain ⟨k, rfl⟩ : ∃ k, fuel = k + 1 := ⟨fuel - 1, by omega⟩
    refine lp_e ?_
    show lbX12_whose_19 v1 v2 0 (nI i) μ = _
    unfold lbX12_whose_19
    rw [h6, if_pos (by rw [le_n (by omega) (by omega)]; omega)]
  | succ r ih =>
    intro i μ fuel hi h6 hf
    obtain ⟨k, rfl⟩ : ∃ k, fuel = k + 1 := ⟨fuel - 1, by omega⟩
    have hs : lbX12_whose_19 v1 v2 0 (nI i) μ = some (.inl (0, nI (i + 1), μ)) := by
      unfold lbX12_whose_19 jjX12_whose_73_19 jjX12_whose_74_19
      rw [h6, if_neg (by rw [le_n (by omega) (by omega)]; omega), if_pos rfl, add_l 1]
    rw [lp_l (s' := (0, nI (i + 1), μ)) hs]
    exact ih (i + 1) μ k (by omega) h6 (by omega)
theorem wh_fits {v1 : Int32} {S t : Nat} (hS : S ≤ 8) (ht : t < 4) : ∀ r i μc μm fuel fuel', i + r = S → RR μc μm → μm.1 402 6 = nI S → (t : Int) < (μm.1 402 2).toInt → r < fuel → r < fuel' →
    ∃ b μc' μm', lp (fun s : Int32 × PM => lbX11_fitsSaid_2 (some (343 + 7 * t)) s.1 s.2) fuel (nI i, μc) = some (b, μc') ∧ lp (fun s : Int32 × Int32 × PM => lbX12_whose_19 v1 (nI t) s.1 s.2.1 s.2.2) fuel' (1, nI i, μm) = some (.inl (b, μm')) ∧ RR μc' μm' ∧ LC μc μc' ∧ LM μm μm' ∧ (b = 0 ∨ b = 1) := by
  intro r
  induction r with
  | zero =>
    intro i μc μm fuel fuel' hi h h6 h2 hf hf'
    obtain ⟨k, rfl⟩ : ∃ k, fuel = k + 1 := ⟨fuel - 1, by omega⟩
    obtain ⟨k', rfl⟩ : ∃ k, fuel' = k + 1 := ⟨fuel' - 1, by omega⟩
    refine ⟨1, μc, μm, lp_e ?_, lp_e ?_, h, LC.rfl' _, LM.rfl' _, Or.inr rfl⟩
    · show lbX11_fitsSaid_2 (some (343 + 7 * t)) (nI i) μc = _
      unfold lbX11_fitsSaid_2
      rw [v1_saidCount h.1.1, h6, if_pos (by rw [le_n (by omega) (by omega)]; omega)]
    · show lbX12_whose_19 v1 (nI t) 1 (nI i) μm = _
      unfold lbX12_whose_19
      rw [h6, if_pos (by rw [le_n (by omega) (by omega)]; omega)]
  | succ r ih =>
    intro i μc μm fuel fuel' hi h h6 h2 hf hf'
    obtain ⟨k, rfl⟩ : ∃ k, fuel = k + 1 := ⟨fuel - 1, by omega⟩
    obtain ⟨k', rfl⟩ : ∃ k, fuel' = k + 1 := ⟨fuel' - 1, by omega⟩
    have hP := RR_ph h
    have hO := ph_ob hP
    have hnb := ob_names hO
    have i8 : i < 8 := by omega
    have hsn := h.1.2.2.2.2.2.2.2.2.1 i (by rw [h6, ti_n (by omega)]; omega)
    have hsb := ob_saidName hO i8
    obtain ⟨n, en, hn, -⟩ := nz_of (v := μm.1 402 (126 + 2 * i)) (k := 6) hsb.1 (by omega)
    obtain ⟨q, μ1, μ2, g1, g2, g3, g4, g5⟩ := ph_melts hP (Or.inl rfl) (show n < 6 by omega) (tx := some (343 + 7 * t)) (t := nI t) (Or.inr ⟨t, ht, h2, rfl, rfl⟩)
    obtain ⟨hR, hC, hF⟩ := RR_l h g4 g5
    have r402 := g5 402 (by omega) (by omega)
    have sC : lbX11_fitsSaid_2 (some (343 + 7 * t)) (nI i) μc = if q = μm.1 402 (127 + 2 * i) then some (.inl (nI (i + 1), μ1)) else some (.inr (0, μ1)) := by
      unfold lbX11_fitsSaid_2
      simp only [go_let]
      rw [v1_saidCount h.1.1, h6, if_neg (by rw [le_n (by omega) (by omega)]; omega), if_neg (by rw [l_le (n := 8) (by omega) (by omega)]; omega), chk_n i8 (by omega), cl_n (by omega), v1_saidName h.1.1 i8, en, q_nameC h.1.1 hO, q_ite, if_pos (by rw [← en]; exact ⟨hsb.1, hsn⟩), g1, Option.bind_some, chk_n i8 (by omega), g4.1 11 (by omega) (by omega), v1_saidMelts h.1.1 i8, add_l 1]
    have sM : lbX12_whose_19 v1 (nI t) 1 (nI i) μm = if q = μm.1 402 (127 + 2 * i) then some (.inl (1, nI (i + 1), μ2)) else some (.inl (0, nI (i + 1), μ2)) := by
      unfold lbX12_whose_19 jjX12_whose_73_19 jjX12_whose_74_19
      rw [h6, if_neg (by rw [le_n (by omega) (by omega)]; omega), if_neg (by decide), l_mul 2, l_add 126, chk_n (by omega) (by omega), cl_n (by omega), en, g2, Option.bind_some, add_l 1, add_l 1, chk_n (by omega) (by omega), cl_n (by omega), r402, show 126 + 2 * i + 1 = 127 + 2 * i by omega]
    by_cases e : q = μm.1 402 (127 + 2 * i)
    · rw [if_pos e] at sC sM
      rw [lp_l (s' := (nI (i + 1), μ1)) sC, lp_l (s' := (1, nI (i + 1), μ2)) sM]
      obtain ⟨b, μ3, μ4, w1, w2, w3, w4, w5, w6⟩ := ih (i + 1) μ1 μ2 k k' (by omega) hR (by rw [r402]; exact h6) (by rw [r402]; exact h2) (by omega) (by omega)
      exact ⟨b, μ3, μ4, w1, w2, w3, g4.tr w4, g5.tr w5, w6⟩
    · rw [if_neg e] at sC sM
      rw [lp_e (r := (0, μ1)) sC, lp_l (s' := (0, nI (i + 1), μ2)) sM, wh_idle hS r (i + 1) μ2 k' (by omega) (by rw [r402]; exact h6) (by omega)]
      exact ⟨0, μ1, μ2, rfl, rfl, hR, g4, g5, Or.inl rfl⟩
theorem c_whose : BOTH fX11_whose fX12_whose := by
  intro μc μm h
  have hO := h.1.2.2.2.1
  obtain ⟨T, eT, hT, hT2⟩ := nz_of (v := μm.1 402 2) (k := 5) (ob_texts hO).1 (by have := (ob_texts hO).2; omega)
  obtain ⟨S, eS, hS, hS2⟩ := nz_of (v := μm.1 402 6) (k := 9) (ob_saidCount hO).1 (by have := (ob_saidCount hO).2; omega)
  obtain ⟨r, r', k1, k2, k3⟩ := lp_two (f := fun s : Int32 × Int32 × PM => lbX11_whose_4 s.1 s.2.1 s.2.2) (g := fun s : Int32 × Int32 × PM => lbX12_whose_4 s.1 s.2.1 s.2.2)
    (fun s t => ∃ i : Nat, i ≤ T ∧ s.2.1 = nI i ∧ t.2.1 = nI i ∧ s.1 = t.1 ∧ RR s.2.2 t.2.2 ∧ LC μc s.2.2 ∧ LM μm t.2.2) (fun s => T - s.2.1.toNatClampNeg)
    (fun r r' => ∃ q μ1 μ2, r = (q, μ1) ∧ r' = (q, μ2) ∧ RR μ1 μ2 ∧ LC μc μ1 ∧ LM μm μ2)
    (fun s t hI => by
      obtain ⟨s0, s1, s2⟩ := s
      obtain ⟨t0, t1, t2⟩ := t
      obtain ⟨i, hi, e1, e2, e3, hR, hC, hM⟩ := hI
      have e1 : s1 = nI i := e1
      have e2 : t1 = nI i := e2
      have e3 : s0 = t0 := e3
      have hR : RR s2 t2 := hR
      have hC : LC μc s2 := hC
      have hM : LM μm t2 := hM
      subst e1 e2 e3
      have r402 := hM 402 (by omega) (by omega)
      dsimp only
      unfold lbX11_whose_4 lbX12_whose_4
      rw [v1_texts hR.1.1, r402, eT]
      have hle : nI T ≤ nI i ↔ T ≤ i := le_n (by omega) (by omega)
      by_cases hlt : T ≤ i
      · right
        rw [if_pos (hle.mpr hlt), if_pos (hle.mpr hlt)]
        exact ⟨_, _, rfl, rfl, s0, s2, t2, rfl, rfl, hR, hC, hM⟩
      · left
        rw [if_neg (fun q => hlt (hle.mp q)), if_neg (fun q => hlt (hle.mp q))]
        have ff : fX11_findText s2 (nI i) = some (some (343 + 7 * i)) := by
          rcases q_find (μ := s2) (T := T) (by rw [v1_texts hR.1.1, r402]; exact eT) (by omega) (nI i) with ⟨k, k1, k2, k3⟩ | ⟨k1, -⟩
          · have : i = k := (eq_n (by omega) (by omega)).mp k2
            rw [k3, this]
          · exact absurd (by rw [ti_n (by omega)]; omega) k1
        obtain ⟨b, μ1, μ2, g1, g2, g3, g4, g5, g6⟩ := wh_fits (v1 := s0) (S := S) (t := i) (by omega) (by omega) S 0 s2 t2 go_fuel go_fuel (by omega) hR (by rw [r402]; exact eS) (by rw [r402]; omega) (by unfold go_fuel; omega) (by unfold go_fuel; omega)
        have fs : fX11_fitsSaid s2 (some (343 + 7 * i)) = some (b, μ1) := by
          unfold fX11_fitsSaid
          rw [show (0 : Int32) = nI 0 from rfl, g1]
          rfl
        rw [ff, Option.bind_some, fs, Option.bind_some, show (lp (fun s : Int32 × Int32 × PM => lbX12_whose_19 s0 (nI i) s.1 s.2.1 s.2.2) go_fuel (1, 0, t2)) = some (.inl (b, μ2)) from g2, Option.bind_some]
        have dec : T - (nI (i + 1)).toNatClampNeg < T - (nI i).toNatClampNeg := by
          rw [cl_n (by omega), cl_n (by omega)]
          omega
        dsimp only [go_cs, go_let]
        unfold jjX12_whose_93_4
        rw [add_l 1]
        rcases g6 with rfl | rfl
        · rw [if_pos rfl, if_pos rfl]
          exact ⟨_, _, rfl, rfl, ⟨i + 1, by omega, rfl, rfl, (Int32.or_zero).symm, g3, hC.tr g4, hM.tr g5⟩, dec⟩
        · rw [if_neg (by decide), if_neg (by decide)]
          exact ⟨_, _, rfl, rfl, ⟨i + 1, by omega, rfl, rfl, rfl, g3, hC.tr g4, hM.tr g5⟩, dec⟩)
    go_fuel go_fuel (0, 0, μc) (0, 0, μm) ⟨0, by omega, rfl, rfl, rfl, h, LC.rfl' _, LM.rfl' _⟩ (by show T - _ < go_fuel; unfold go_fuel; omega) (by show T - _ < go_fuel; unfold go_fuel; omega)
  obtain ⟨q, μ1, μ2, rfl, rfl, g1, g2, g3⟩ := k3
  obtain ⟨-, hC, hF⟩ := RR_l h g2 g3
  refine ⟨q, μ1, μ2, ?_, ?_, g1, hC, hF⟩
  · unfold fX11_whose
    rw [k1]
    rfl
  · unfold fX12_whose
    rw [k2]
    rfl
