/-! ===== played ===== -/
theorem pl_both {μc μm : PM} {s : Nat} {x y : Int32} {t k : Nat} (h : RR μc μm) (ht : t < 4) (hk : k < 24) (hs : s ≤ 10) (hm : μm.1 404 (681 * t + 1 + 3 * k) = nI s) (hx : 3 ≤ s → x = μm.1 404 (681 * t + 2 + 3 * k) ∧ (s = 3 ∨ s = 4 ∨ s = 8 → y = μm.1 404 (681 * t + 3 + 3 * k))) :
    ∃ b μc' μm', fX11_playClause μc (nI s) x y = some (b, μc') ∧ fX12_isPlayed μm (nI (681 * t + 1 + 3 * k)) = some (b, μm') ∧ RR μc' μm' ∧ FrC μc μc' ∧ FrM μm μm' ∧ μm'.1 402 2 = μm.1 402 2 := by
  have hO := h.1.2.2.2.1
  have i1 : nI (681 * t + 1 + 3 * k) + 1 = nI (681 * t + 2 + 3 * k) := by rw [add_l 1]; congr 1; omega
  have i2 : nI (681 * t + 1 + 3 * k) + 2 = nI (681 * t + 3 + 3 * k) := by rw [add_l 2]; congr 1; omega
  have ne : ∀ j : Nat, j < 64 → s ≠ j → ¬ nI s = (OfNat.ofNat j : Int32) := fun j hj q z => q ((eq_l (n := j) (by omega) (by omega)).mp z)
  unfold fX11_playClause fX12_isPlayed
  simp only [go_let]
  rw [i1, i2, chk_n (by omega) (by omega), chk_n (by omega) (by omega), chk_n (by omega) (by omega), cl_n (show 681 * t + 1 + 3 * k < 2147483648 by omega), cl_n (show 681 * t + 2 + 3 * k < 2147483648 by omega), cl_n (show 681 * t + 3 + 3 * k < 2147483648 by omega), hm]
  by_cases h3 : s < 3
  · rw [if_neg (ne 3 (by omega) (by omega)), if_neg (ne 4 (by omega) (by omega)), if_neg (ne 5 (by omega) (by omega)), if_neg (ne 6 (by omega) (by omega)), if_neg (ne 7 (by omega) (by omega)), if_neg (ne 8 (by omega) (by omega)), if_neg (ne 9 (by omega) (by omega)), if_neg (ne 10 (by omega) (by omega)),
      if_neg (ne 3 (by omega) (by omega)), if_neg (ne 4 (by omega) (by omega)), if_neg (ne 5 (by omega) (by omega)), if_neg (ne 6 (by omega) (by omega)), if_neg (ne 7 (by omega) (by omega)), if_neg (ne 8 (by omega) (by omega)), if_neg (ne 9 (by omega) (by omega)), if_neg (ne 10 (by omega) (by omega))]
    exact ⟨1, μc, μm, rfl, rfl, h, FrC.rfl' _, FrM.rfl' _, rfl⟩
  obtain ⟨ex, ey⟩ := hx (by omega)
  rw [← ex]
  have neg : ∀ r : Int32, (r = -1 ∨ 0 ≤ r.toInt) → (r < 0 ↔ r = -1) := fun r hr => by
    have t0 : (0 : Int32).toInt = 0 := rfl
    have t1 : (-1 : Int32).toInt = -1 := rfl
    rw [i_lt, i_eq, t0, t1]
    rcases hr with rfl | hr
    · decide
    · omega
  by_cases e3 : s = 3
  · rw [if_pos (show nI s = 3 by rw [e3]; rfl), if_pos (show nI s = 3 by rw [e3]; rfl), ← ey (by omega)]
    obtain ⟨r, μ1, μ2, g1, g2, g3, g4, g5⟩ := c_name x y μc μm h
    have g1 : fX11_name μc x y = some (r, μ1) := g1
    have g2 : fX12_name μm x y = some (r, μ2) := g2
    obtain ⟨k2, kr⟩ := k2_name hO g2
    rw [g1, g2, Option.bind_some, Option.bind_some]
    dsimp only
    by_cases hr : r = -1
    · rw [if_pos hr, if_pos ((neg r kr).mpr hr)]
      exact ⟨0, μ1, μ2, rfl, rfl, g3, g4, g5, k2⟩
    · rw [if_neg hr, if_neg (fun q => hr ((neg r kr).mp q))]
      exact ⟨1, μ1, μ2, rfl, rfl, g3, g4, g5, k2⟩
  rw [if_neg (ne 3 (by omega) e3), if_neg (ne 3 (by omega) e3)]
  by_cases e4 : s = 4
  · rw [if_pos (show nI s = 4 by rw [e4]; rfl), if_pos (show nI s = 4 by rw [e4]; rfl), ← ey (by omega)]
    obtain ⟨r, μ1, μ2, g1, g2, g3, g4, g5⟩ := c_family x y μc μm h
    have g1 : fX11_family μc x y = some (r, μ1) := g1
    have g2 : fX12_family μm x y = some (r, μ2) := g2
    obtain ⟨k2, kr⟩ := k2_family hO g2
    rw [g1, g2, Option.bind_some, Option.bind_some]
    dsimp only
    by_cases hr : r = -1
    · rw [if_pos hr, if_pos ((neg r kr).mpr hr)]
      exact ⟨0, μ1, μ2, rfl, rfl, g3, g4, g5, k2⟩
    · rw [if_neg hr, if_neg (fun q => hr ((neg r kr).mp q))]
      exact ⟨1, μ1, μ2, rfl, rfl, g3, g4, g5, k2⟩
  rw [if_neg (ne 4 (by omega) e4), if_neg (ne 4 (by omega) e4)]
  by_cases e5 : s = 5
  · rw [if_pos (show nI s = 5 by rw [e5]; rfl), if_pos (show nI s = 5 by rw [e5]; rfl)]
    obtain ⟨r, μ1, μ2, g1, g2, g3, g4, g5⟩ := c_call x μc μm h
    have g1 : fX11_call μc x = some (r, μ1) := g1
    have g2 : fX12_call μm x = some (r, μ2) := g2
    rw [g1, g2, Option.bind_some, Option.bind_some]
    exact ⟨r, μ1, μ2, rfl, rfl, g3, g4, g5, k2_call hO g2⟩
  rw [if_neg (ne 5 (by omega) e5), if_neg (ne 5 (by omega) e5)]
  by_cases e6 : s = 6
  · rw [if_pos (show nI s = 6 by rw [e6]; rfl), if_pos (show nI s = 6 by rw [e6]; rfl)]
    obtain ⟨r, μ1, μ2, g1, g2, g3, g4, g5⟩ := c_stone x 1 μc μm h
    have g1 : fX11_stone μc x 1 = some (r, μ1) := g1
    have g2 : fX12_stone μm x 1 = some (r, μ2) := g2
    rw [g1, g2, Option.bind_some, Option.bind_some]
    exact ⟨r, μ1, μ2, rfl, rfl, g3, g4, g5, k2_stone hO g2⟩
  rw [if_neg (ne 6 (by omega) e6), if_neg (ne 6 (by omega) e6)]
  by_cases e7 : s = 7
  · rw [if_pos (show nI s = 7 by rw [e7]; rfl), if_pos (show nI s = 7 by rw [e7]; rfl)]
    obtain ⟨r, μ1, μ2, g1, g2, g3, g4, g5⟩ := c_stone x 0 μc μm h
    have g1 : fX11_stone μc x 0 = some (r, μ1) := g1
    have g2 : fX12_stone μm x 0 = some (r, μ2) := g2
    rw [g1, g2, Option.bind_some, Option.bind_some]
    exact ⟨r, μ1, μ2, rfl, rfl, g3, g4, g5, k2_stone hO g2⟩
  rw [if_neg (ne 7 (by omega) e7), if_neg (ne 7 (by omega) e7)]
  by_cases e8 : s = 8
  · rw [if_pos (show nI s = 8 by rw [e8]; rfl), if_pos (show nI s = 8 by rw [e8]; rfl), ← ey (by omega)]
    obtain ⟨r, μ1, μ2, g1, g2, g3, g4, g5⟩ := c_stand x y μc μm h
    have g1 : fX11_stand μc x y = some (r, μ1) := g1
    have g2 : fX12_stand μm x y = some (r, μ2) := g2
    rw [g1, g2, Option.bind_some, Option.bind_some]
    exact ⟨r, μ1, μ2, rfl, rfl, g3, g4, g5, k2_stand hO g2⟩
  rw [if_neg (ne 8 (by omega) e8), if_neg (ne 8 (by omega) e8)]
  by_cases e9 : s = 9
  · rw [if_pos (show nI s = 9 by rw [e9]; rfl), if_pos (show nI s = 9 by rw [e9]; rfl)]
    obtain ⟨r, μ1, μ2, g1, g2, g3, g4, g5⟩ := c_sink x μc μm h
    have g1 : fX11_sink μc x = some (r, μ1) := g1
    have g2 : fX12_sink μm x = some (r, μ2) := g2
    rw [g1, g2, Option.bind_some, Option.bind_some]
    exact ⟨r, μ1, μ2, rfl, rfl, g3, g4, g5, k2_sink hO g2⟩
  have e10 : s = 10 := by omega
  rw [if_neg (ne 9 (by omega) e9), if_neg (ne 9 (by omega) e9), if_pos (show nI s = 10 by rw [e10]; rfl), if_pos (show nI s = 10 by rw [e10]; rfl), v1_hour h.1.1]
  obtain ⟨r, q, μ1, μ2, g1, g2, g3, g4, g5, g6, g7, g8⟩ := hr_both h x
  rw [g1, g2, Option.bind_some, Option.bind_some]
  dsimp only
  rcases g7 with ⟨rfl, g7⟩ | ⟨rfl, g7⟩
  · rw [if_pos g7]
    exact ⟨1, μ1, μ2, rfl, rfl, g3, g4, g5, g8⟩
  · rw [if_neg g7]
    exact ⟨0, μ1, μ2, rfl, rfl, g3, g4, g5, g8⟩
theorem c_played (v : Int32) : BOTH (fun μ => fX11_played μ v) (fun μ => fX12_played μ v) := by
  intro μc μm h
  have hO := h.1.2.2.2.1
  have htb := ob_texts hO
  obtain ⟨T, eT, hT, hT2⟩ := nz_of (v := μm.1 402 2) (k := 5) htb.1 (by omega)
  dsimp only
  unfold fX11_played fX12_played
  have t1 : (1 : Int32).toInt = 1 := rfl
  have t0 : (0 : Int32).toInt = 0 := rfl
  rw [q_isIn, q_ite, ti_sub (by rw [t1]; omega) (by rw [t1]; omega), t1, t0]
  rcases q_find (μ := μc) (T := T) (by rw [v1_texts h.1.1]; exact eT) (by omega) v with ⟨t, k1, k2, k3⟩ | ⟨k1, k2⟩
  case inr =>
    rw [k2, Option.bind_some, if_neg (by omega)]
    exact ⟨-2, μc, μm, rfl, rfl, h, FrC.rfl' _, FrM.rfl' _⟩
  have tv : v.toInt = (t : Int) := by rw [k2, ti_n (by omega)]
  rw [k3, Option.bind_some, if_pos (by omega)]
  dsimp only [go_op]
  obtain ⟨r, r', j1, j2, j3⟩ := lp_two (f := fun q : Int32 × PM => lbX11_played_15 v (343 + 7 * t) q.1 q.2) (g := fun q : Int32 × PM => lbX12_played_21 v q.1 q.2)
    (fun s u => ∃ i : Nat, i ≤ 24 ∧ s.1 = nI i ∧ u.1 = nI i ∧ RR s.2 u.2 ∧ FrC μc s.2 ∧ FrM μm u.2 ∧ u.2.1 402 2 = μm.1 402 2) (fun s => 24 - s.1.toNatClampNeg)
    (fun r r' => ∃ q μ1 μ2, r = (q, μ1) ∧ r' = (q, μ2) ∧ RR μ1 μ2 ∧ FrC μc μ1 ∧ FrM μm μ2)
    (fun s u hI => by
      obtain ⟨s1, s2⟩ := s
      obtain ⟨u1, u2⟩ := u
      obtain ⟨i, hi, e1, e2, hR, hC, hF, h2⟩ := hI
      have e1 : s1 = nI i := e1
      have e2 : u1 = nI i := e2
      have hR : RR s2 u2 := hR
      have hC : FrC μc s2 := hC
      have hF : FrM μm u2 := hF
      have h2 : u2.1 402 2 = μm.1 402 2 := h2
      subst e1 e2
      obtain ⟨N, hN, n1, n2, n3, -⟩ := hR.2.2.2.2.2 t (by rw [h2]; omega) (by omega)
      have i1 : 681 * v = nI (681 * t) := by rw [k2]; exact l_mul 681 t
      have i2 : nI (681 * t) + 1 + 3 * nI i = nI (681 * t + 1 + 3 * i) := by rw [l_mul 3, add_l 1, nI_add]
      dsimp only
      unfold lbX11_played_15 lbX12_played_21
      rw [i1, chk_n (show 681 * t < 2724 by omega) (by omega), cl_n (show 681 * t < 2147483648 by omega), n1, n2, i2]
      have hle : nI N ≤ nI i ↔ N ≤ i := le_n (by omega) (by omega)
      by_cases hlt : N ≤ i
      · right
        rw [if_pos (hle.mpr hlt), if_pos (hle.mpr hlt)]
        exact ⟨_, _, rfl, rfl, -1, s2, u2, rfl, rfl, hR, hC, hF⟩
      · have hlt' : ¬ nI N ≤ nI i := fun q => hlt (hle.mp q)
        obtain ⟨s, q1, q2, q3, q4⟩ := n3 i (by omega)
        obtain ⟨b, μ1, μ2, g1, g2, g3, g4, g5, g6⟩ := pl_both (x := s2.1 (345 + 7 * t) i) (y := s2.1 (346 + 7 * t) i) (t := t) (k := i) hR (by omega) (by omega) q1 q3 q4
        rw [if_neg hlt', if_neg hlt', if_neg (show ¬ (24 : Int32) ≤ nI i by rw [l_le (n := 24) (by omega) (by omega)]; omega), chk_n (show i < 24 by omega) (by omega), chk_n (show i < 24 by omega) (by omega), chk_n (show i < 24 by omega) (by omega), cl_n (show i < 2147483648 by omega), show 343 + 7 * t + 1 = 344 + 7 * t by omega, show 343 + 7 * t + 2 = 345 + 7 * t by omega, show 343 + 7 * t + 3 = 346 + 7 * t by omega, q2, g1, g2, Option.bind_some, Option.bind_some, add_l 1]
        dsimp only
        by_cases hb : b = 0
        · right
          rw [if_pos hb, if_pos hb]
          exact ⟨_, _, rfl, rfl, nI i, μ1, μ2, rfl, rfl, g3, hC.tr g4, hF.tr g5⟩
        · left
          rw [if_neg hb, if_neg hb]
          refine ⟨_, _, rfl, rfl, ⟨i + 1, by omega, rfl, rfl, g3, hC.tr g4, hF.tr g5, g6.trans h2⟩, ?_⟩
          show 24 - (nI (i + 1)).toNatClampNeg < _
          rw [cl_n (by omega)]
          omega)
    go_fuel go_fuel (0, μc) (0, μm) ⟨0, by omega, rfl, rfl, h, FrC.rfl' _, FrM.rfl' _, rfl⟩ (by show 24 - _ < go_fuel; unfold go_fuel; omega) (by show 24 - _ < go_fuel; unfold go_fuel; omega)
  obtain ⟨q, ν1, ν2, rfl, rfl, w1, w2, w3⟩ := j3
  rw [j1, j2]
  exact ⟨q, ν1, ν2, rfl, rfl, w1, w2, w3⟩
