section CR3
variable {b : Nat → Nat} {n m tx lk : Nat}
theorem cmp_is {x y : Nat} (h : pz_cmp x = some y) : x = 40 ∨ x = 41 ∨ x = 42 ∨ x = 43 ∨ x = 51 ∨ x = 52 := by
  unfold pz_cmp at h
  repeat' split at h
  all_goals first | omega | (cases h; done)
theorem cmp_no {x : Nat} (h : pz_cmp x = none) : x ≠ 40 ∧ x ≠ 41 ∧ x ≠ 42 ∧ x ≠ 43 ∧ x ≠ 51 ∧ x ≠ 52 := by
  unfold pz_cmp at h
  repeat' split at h
  all_goals first | (cases h; done) | omega
theorem rd_ask {N : Nat} (htx : 343 ≤ tx ∧ tx ≤ 364) (h0 : RDP tx b n m lk N 0) (h6 : RDP tx b n m lk N 6)
    {d i p : Nat} {r : pz_R} {F : Nat} {μ : PM} (hr : pz_ask (tk_t b n) (pz_P (tk_t b n) (tk_v b n) lk N) d i p = some r) (hd : d ≤ 8) (hF : pz_rk 6 + 7 * (8 - d) ≤ F) (h : CS tx μ b n m i p) (hl : μ.1 372 7 = nI lk) (hp : p ≤ i) : RDR tx μ b n m p r (rdF tx F 6 μ (nI d)) := by
  have hF : 4 + 7 * (8 - d) ≤ F := hF
  obtain ⟨F, rfl⟩ : ∃ f, F = f + 1 := ⟨F - 1, by omega⟩
  have hm := h.1.1
  have him := h.2.1
  show RDR tx μ b n m p r (fX6_readAsk_B tx μ (rdF tx F) (nI d))
  have q28 := cs_is (x := 28) h (by omega)
  unfold fX6_readAsk_B
  unfold pz_ask at hr
  by_cases c28 : tk_t b n i = 28
  · rw [if_pos c28] at hr
    rw [if_pos (q28.mpr c28)]
    unfold pz_open at hr
    rcases cs_open htx h hd (by omega) with ⟨o1, μ1, o2, o3, o4⟩ | ⟨o1, μ1, o2, o3, o4, o5⟩
    · rw [if_pos o1] at hr
      cases hr
      exact ⟨μ1, by rw [o2, Option.bind_some, if_pos rfl], o3, o4⟩
    · rw [if_neg (by omega)] at hr
      rw [o2, Option.bind_some, if_neg (show ¬ (1 : Int32) = 0 by decide), add_l 1]
      have hl1 : μ1.1 372 7 = nI lk := (o3.2.1 7 (by omega) (by omega) (by omega) (by omega)).trans hl
      have dp := fun r' e1 => h6 (d + 1) (i + 1) p r' F μ1 e1 (by omega) (show 4 + 7 * (8 - (d + 1)) ≤ F by omega) o4 hl1 (by omega)
      refine rd_un (o := 28) htx o3 o5 dp (fun j c q e1 => ?_) hr
      have pl := (pz_len _ _ _ _ _ _ _ _ e1).1
      obtain ⟨μ2, -, -, c3, -⟩ := dp _ e1
      have hj : j ≤ m := c3.2.1
      omega
  rw [if_neg c28] at hr
  rw [if_neg (fun z => c28 (q28.mp z))]
  have d0 := fun i' p' r' μ' e1 hS hl' hp' => h0 d i' p' r' F μ' e1 hd (show 3 + 7 * (8 - d) ≤ F by omega) hS hl' hp'
  rcases pz_bind_e hr with ⟨e, e1, rfl⟩ | ⟨j, c, q, e1, hr⟩
  · obtain ⟨μ1, c1, c2, c3⟩ := d0 i p _ μ e1 h hl hp
    obtain ⟨μ2, l1, l2, l3⟩ := cx_ref htx c3 1
    unfold jjX6_readAsk_B_58
    refine ⟨μ2, ?_, c2.tr l2, l3⟩
    rw [c1, Option.bind_some, c3.1, if_neg (show ¬ (53 : Int32) < 40 by decide), if_neg (show ¬ (53 : Int32) ≤ 43 by decide), if_neg (show ¬ (53 : Int32) = 51 by decide), if_neg (show ¬ (53 : Int32) = 52 by decide), l1, Option.bind_some]
  · have pl := (pz_len _ _ _ _ _ _ _ _ e1)
    obtain ⟨μ1, c1, c2, c3, c4, c5⟩ := d0 i p _ μ e1 h hl hp
    have c3 : CS tx μ1 b n m j (p + c.length) := c3
    have c4 : CW tx μ1 p c := c4
    have t54 := tk_t_le b n j
    have hj := c3.2.1
    rw [c1, Option.bind_some, c3.2.2.2.2.1]
    have l40 : nI (tk_t b n j) < 40 ↔ tk_t b n j < 40 := lt_l (n := 40) (by omega) (by omega)
    have l43 : nI (tk_t b n j) ≤ 43 ↔ tk_t b n j ≤ 43 := le_l (n := 43) (by omega) (by omega)
    have q51 : nI (tk_t b n j) = 51 ↔ tk_t b n j = 51 := eq_l (n := 51) (by omega) (by omega)
    have q52 : nI (tk_t b n j) = 52 ↔ tk_t b n j = 52 := eq_l (n := 52) (by omega) (by omega)
    unfold jjX6_readAsk_B_58
    cases hc : pz_cmp (tk_t b n j) with
    | none =>
      rw [hc] at hr
      cases hr
      obtain ⟨n40, n41, n42, n43, n51, n52⟩ := cmp_no hc
      obtain ⟨μ2, k1, k2, k3, -⟩ := cs_ref (e := 1) htx c3 (by decide) (by decide)
      have k1 : fX6_refuse μ1 1 = some μ2 := k1
      refine ⟨μ2, ?_, c2.tr k2, k3⟩
      by_cases k40 : tk_t b n j < 40
      · rw [if_pos (l40.mpr k40), if_neg (fun z => n51 (q51.mp z)), if_neg (fun z => n52 (q52.mp z)), k1, Option.bind_some]
      rw [if_neg (fun z => k40 (l40.mp z)), if_neg (fun z => by have := l43.mp z; omega), if_neg (fun z => n51 (q51.mp z)), if_neg (fun z => n52 (q52.mp z)), k1, Option.bind_some]
    | some y =>
      rw [hc] at hr
      dsimp only at hr
      have hx := cmp_is hc
      have J : RDR tx μ b n m p r (jjX6_readAsk_B_70 tx μ1 (rdF tx F) (nI d) (nI (tk_t b n j))) := by
        unfold jjX6_readAsk_B_70
        obtain ⟨μ2, a1, a2, a3, a4⟩ := cs_adv htx c3 (by omega)
        have hl2 : μ2.1 372 7 = nI lk := (a2.2.1 7 (by omega) (by omega) (by omega) (by omega)).trans ((c2.2.1 7 (by omega) (by omega) (by omega) (by omega)).trans hl)
        rw [a1, Option.bind_some]
        rcases pz_bind_e hr with ⟨e, e2, rfl⟩ | ⟨j', c', q', e2, hr⟩
        · obtain ⟨μ4, s1, s2, s3⟩ := d0 (j + 1) (p + c.length) _ μ2 e2 a3 hl2 (by omega)
          obtain ⟨z, μ5, d1, -, d2, d3⟩ := cx_emit htx s3 (nI (tk_t b n j)) 0
          exact ⟨μ5, by rw [s1, Option.bind_some, d1, Option.bind_some], c2.tr (a2.tr (s2.tr d2)), d3⟩
        · have pl2 := (pz_len _ _ _ _ _ _ _ _ e2)
          obtain ⟨μ4, s1, s2, s3, s4, s5⟩ := d0 (j + 1) (p + c.length) _ μ2 e2 a3 hl2 (by omega)
          have s3 : CS tx μ4 b n m j' (p + c.length + c'.length) := s3
          have s4 : CW tx μ4 (p + c.length) c' := s4
          have hj' := s3.2.1
          obtain ⟨μ5, d1, d2, d3, d4, d5⟩ := cs_emit (a := tk_t b n j) (v := 0) htx s3 (by omega)
          have d1 : fX8_emit μ4 tx (nI (tk_t b n j)) 0 = some (nI (p + c.length + c'.length), μ5) := d1
          cases hr
          have cb3 : CB tx μ1 μ2 (p + c.length) := fun k _ => by rw [a4 (tx + 5) (by omega), a4 (tx + 6) (by omega)]; exact ⟨rfl, rfl⟩
          refine ⟨μ5, by rw [s1, Option.bind_some, d1, Option.bind_some], c2.tr (a2.tr (s2.tr d2)), ?_, ?_, ((c5.tr cb3 (by omega)).tr s5 (by omega)).tr d5 (by omega)⟩
          · show CS tx μ5 b n m j' (p + (c ++ c' ++ [(tk_t b n j, 0)]).length)
            rw [List.length_append, List.length_append, show p + (c.length + c'.length + [(tk_t b n j, 0)].length) = p + c.length + c'.length + 1 by show p + (c.length + c'.length + 1) = _; omega]
            exact d3
          · refine CW_app (CW_app (CW_cb (CW_cb (CW_cb c4 cb3 (Nat.le_refl _)) s5 (Nat.le_refl _)) d5 (by omega)) (CW_cb s4 d5 (Nat.le_refl _))) ?_
            rw [List.length_append, ← Nat.add_assoc]
            exact d4
      by_cases k40 : tk_t b n j < 40
      · omega
      rw [if_neg (fun z => k40 (l40.mp z))]
      by_cases k43 : tk_t b n j ≤ 43
      · rw [if_pos (l43.mpr k43)]
        exact J
      rw [if_neg (fun z => k43 (l43.mp z))]
      by_cases k51 : tk_t b n j = 51
      · rw [if_pos (q51.mpr k51)]
        exact J
      rw [if_neg (fun z => k51 (q51.mp z)), if_pos (q52.mpr (by omega))]
      exact J
theorem rd_choice {N : Nat} (htx : 343 ≤ tx ∧ tx ≤ 364) (h0 : RDP tx b n m lk N 0) (h4 : RDP tx b n m lk N 4)
    {d i p : Nat} {r : pz_R} {F : Nat} {μ : PM} (hr : pz_choice (tk_t b n) (pz_P (tk_t b n) (tk_v b n) lk N) d i p = some r) (hd : d ≤ 8) (hF : pz_rk 3 + 7 * (8 - d) ≤ F) (h : CS tx μ b n m i p) (hl : μ.1 372 7 = nI lk) (hp : p ≤ i) : RDR tx μ b n m p r (rdF tx F 3 μ (nI d)) := by
  have hF : 7 + 7 * (8 - d) ≤ F := hF
  obtain ⟨F, rfl⟩ : ∃ f, F = f + 1 := ⟨F - 1, by omega⟩
  have hm := h.1.1
  show RDR tx μ b n m p r (fX6_readChoice_B tx μ (rdF tx F) (nI d))
  rw [ch_eq]
  have hx : ∀ {e : Nat × Nat} k μ, k = 0 ∨ k = 4 → CX tx μ b n e → ∃ μ', rdF tx F k μ (nI d) = some μ' ∧ CF tx μ μ' ∧ CX tx μ' b n e := by
    intro e k μ hk hc
    rcases hk with rfl | rfl
    · exact rd_x htx F 0 μ (nI d) hc (by omega) (show 3 ≤ F by omega)
    · exact rd_x htx F 4 μ (nI d) hc (by omega) (show 6 ≤ F by omega)
  have d0 := fun i' p' r' μ' e1 hS hl' hp' => h0 d i' p' r' F μ' e1 hd (show 3 + 7 * (8 - d) ≤ F by omega) hS hl' hp'
  have w7 : ∀ {μ1 μ2 : PM}, CF tx μ1 μ2 → μ1.1 372 7 = nI lk → μ2.1 372 7 = nI lk := fun hc h => (hc.2.1 7 (by omega) (by omega) (by omega) (by omega)).trans h
  have sm : ∀ {μ1 μ2 : PM} {P : Nat}, (∀ c, c ≠ 372 → μ2.1 c = μ1.1 c) → CB tx μ1 μ2 P := fun hc k _ => by rw [hc (tx + 5) (by omega), hc (tx + 6) (by omega)]; exact ⟨rfl, rfl⟩
  unfold pz_choice at hr
  rcases pz_bind_e hr with ⟨e, e1, rfl⟩ | ⟨j, c, q, e1, hr⟩
  · obtain ⟨μ1, c1, c2, c3⟩ := h4 d i p _ F μ e1 hd (show 6 + 7 * (8 - d) ≤ F by omega) h hl hp
    obtain ⟨μ2, x1, x2, x3⟩ := ch_6x htx hx c3
    exact ⟨μ2, by rw [c1, Option.bind_some, x1], c2.tr x2, x3⟩
  have pl1 := (pz_len _ _ _ _ _ _ _ _ e1)
  obtain ⟨μ1, c1, c2, c3, c4, c5⟩ := h4 d i p _ F μ e1 hd (show 6 + 7 * (8 - d) ≤ F by omega) h hl hp
  have c3 : CS tx μ1 b n m j (p + c.length) := c3
  have c4 : CW tx μ1 p c := c4
  have hj := c3.2.1
  rw [c1, Option.bind_some]
  unfold ch_6
  unfold pz_want at hr
  rcases cs_exp (x := 23) htx c3 (by omega) (by decide) with ⟨x0, μ2, x1, x2, x3, x4⟩ | ⟨x0, μ2, x1, x2, x3⟩
  case inr =>
    have x1 : fX6_expect μ1 23 = some μ2 := x1
    rw [if_neg x0] at hr
    cases hr
    obtain ⟨μ3, y1, y2, y3⟩ := ch_5x htx hx x3
    exact ⟨μ3, by rw [x1, Option.bind_some, y1], c2.tr (x2.tr y2), y3⟩
  have x1 : fX6_expect μ1 23 = some μ2 := x1
  rw [if_pos x0] at hr
  rw [x1, Option.bind_some]
  obtain ⟨μ3, d1, d2, d3, d4, d5⟩ := cs_emit (a := 23) (v := 0) htx x3 (by omega)
  have d1 : fX8_emit μ2 tx 23 0 = some (nI (p + c.length), μ3) := d1
  unfold ch_5
  rw [d1, Option.bind_some]
  dsimp only
  have F3 : CF tx μ μ3 := c2.tr (x2.tr d2)
  have B3 : CB tx μ μ3 p := (c5.tr (sm (P := p) x4) (Nat.le_refl _)).tr d5 (by omega)
  have W3 : CW tx μ3 p c := CW_cb (CW_cb c4 (sm (P := p + c.length) x4) (Nat.le_refl _)) d5 (Nat.le_refl _)
  have o3 : μ3.1 (tx + 5) (p + c.length) = nI 23 := (d4 0 (by decide)).1
  rcases pz_bind_e hr with ⟨e, e2, rfl⟩ | ⟨j2, cc2, q2, e2, hr⟩
  · obtain ⟨μ4, s1, s2, s3⟩ := d0 (j + 1) (p + c.length + 1) _ μ3 e2 d3 (w7 F3 hl) (by omega)
    obtain ⟨μ5, y1, y2, y3⟩ := ch_4x htx hx s3 (a := p + c.length) (by omega)
    exact ⟨μ5, by rw [s1, Option.bind_some, y1], F3.tr (s2.tr y2), y3⟩
  have pl2 := (pz_len _ _ _ _ _ _ _ _ e2)
  obtain ⟨μ4, s1, s2, s3, s4, s5⟩ := d0 (j + 1) (p + c.length + 1) _ μ3 e2 d3 (w7 F3 hl) (by omega)
  have s3 : CS tx μ4 b n m j2 (p + c.length + 1 + cc2.length) := s3
  have s4 : CW tx μ4 (p + c.length + 1) cc2 := s4
  have hj2 := s3.2.1
  rw [s1, Option.bind_some]
  have F4 : CF tx μ μ4 := F3.tr s2
  have B4 : CB tx μ μ4 p := B3.tr s5 (by omega)
  have W4 : CW tx μ4 p c := CW_cb W3 s5 (by omega)
  have o4 : μ4.1 (tx + 5) (p + c.length) = nI 23 := (s5 _ (by omega)).1.trans o3
  unfold ch_4
  rcases cs_exp (x := 24) htx s3 (by omega) (by decide) with ⟨u0, μ5, u1, u2, u3, u4⟩ | ⟨u0, μ5, u1, u2, u3⟩
  case inr =>
    have u1 : fX6_expect μ4 24 = some μ5 := u1
    rw [if_neg u0] at hr
    cases hr
    obtain ⟨μ6, y1, y2, y3⟩ := ch_3x htx hx u3 (a := p + c.length) (by omega)
    exact ⟨μ6, by rw [u1, Option.bind_some, y1], F4.tr (u2.tr y2), y3⟩
  have u1 : fX6_expect μ4 24 = some μ5 := u1
  rw [if_pos u0] at hr
  rw [u1, Option.bind_some]
  obtain ⟨μ6, v1, v2, v3, v4, v5⟩ := cs_emit (a := 24) (v := 0) htx u3 (by omega)
  have v1 : fX8_emit μ5 tx 24 0 = some (nI (p + c.length + 1 + cc2.length), μ6) := v1
  unfold ch_3
  rw [v1, Option.bind_some]
  dsimp only
  obtain ⟨μ7, a1, a2, a3, a4, a5, a6⟩ := cs_aim (a := p + c.length) htx v3 (by omega)
  rw [a1, Option.bind_some]
  have F7 : CF tx μ μ7 := F4.tr (u2.tr (v2.tr a2))
  have B56 : CB tx μ4 μ6 (p + c.length + 1 + cc2.length) := (sm (P := p + c.length + 1 + cc2.length) u4).tr v5 (Nat.le_refl _)
  have W6 : CW tx μ6 p c := CW_cb W4 B56 (by omega)
  have W6b : CW tx μ6 (p + c.length + 1) cc2 := CW_cb s4 B56 (Nat.le_refl _)
  have o6 : μ6.1 (tx + 5) (p + c.length) = nI 23 := (B56 _ (by omega)).1.trans o4
  have o6b : μ6.1 (tx + 5) (p + c.length + 1 + cc2.length) = nI 24 := (v4 0 (by decide)).1
  have B6 : CB tx μ μ6 p := B4.tr B56 (by omega)
  have B7 : CB tx μ μ7 p := fun k hk => by rw [a4, a5 k (by omega)]; exact B6 k hk
  have W7 : CW tx μ7 p c := CW_aim W6 a4 a5 (Or.inr (Nat.le_refl _))
  have W7b : CW tx μ7 (p + c.length + 1) cc2 := CW_aim W6b a4 a5 (Or.inl (by omega))
  have o7 : μ7.1 (tx + 5) (p + c.length) = nI 23 := by rw [a4]; exact o6
  have o7b : μ7.1 (tx + 5) (p + c.length + 1 + cc2.length) = nI 24 := by rw [a4]; exact o6b
  rcases pz_bind_e hr with ⟨e, e3, rfl⟩ | ⟨j3, cc3, q3, e3, hr⟩
  · obtain ⟨μ8, s1, s2, s3⟩ := d0 (j2 + 1) (p + c.length + 1 + cc2.length + 1) _ μ7 e3 a3 (w7 F7 hl) (by omega)
    obtain ⟨μ9, y1, y2, y3⟩ := ch_2x htx s3 (a := p + c.length + 1 + cc2.length) (by omega)
    exact ⟨μ9, by rw [s1, Option.bind_some, y1], F7.tr (s2.tr y2), y3⟩
  have pl3 := (pz_len _ _ _ _ _ _ _ _ e3)
  obtain ⟨μ8, r1, r2, r3, r4, r5⟩ := d0 (j2 + 1) (p + c.length + 1 + cc2.length + 1) _ μ7 e3 a3 (w7 F7 hl) (by omega)
  have r3 : CS tx μ8 b n m j3 (p + c.length + 1 + cc2.length + 1 + cc3.length) := r3
  have r4 : CW tx μ8 (p + c.length + 1 + cc2.length + 1) cc3 := r4
  have hj3 := r3.2.1
  rw [r1, Option.bind_some]
  have F8 : CF tx μ μ8 := F7.tr r2
  unfold ch_2
  rcases cs_exp (x := 25) htx r3 (by omega) (by decide) with ⟨u0, μ9, w1, w2, w3, w4⟩ | ⟨u0, μ9, w1, w2, w3⟩
  case inr =>
    have w1 : fX6_expect μ8 25 = some μ9 := w1
    rw [if_neg u0] at hr
    cases hr
    obtain ⟨μ10, y1, y2, y3⟩ := ch_1x htx w3 (a := p + c.length + 1 + cc2.length) (by omega)
    exact ⟨μ10, by rw [w1, Option.bind_some, y1], F8.tr (w2.tr y2), y3⟩
  have w1 : fX6_expect μ8 25 = some μ9 := w1
  rw [if_pos u0] at hr
  rw [w1, Option.bind_some]
  obtain ⟨μ10, z1, z2, z3, z4, z5, z6⟩ := cs_aim (a := p + c.length + 1 + cc2.length) htx w3 (by omega)
  unfold ch_1
  cases hr
  have B89 : CB tx μ7 μ9 (p + c.length + 1 + cc2.length + 1) := r5.tr (sm (P := p + c.length + 1 + cc2.length + 1) w4) (Nat.le_refl _)
  have W9 : CW tx μ9 p c := CW_cb W7 B89 (by omega)
  have W9b : CW tx μ9 (p + c.length + 1) cc2 := CW_cb W7b B89 (by omega)
  have W9c : CW tx μ9 (p + c.length + 1 + cc2.length + 1) cc3 := CW_cb r4 (sm (P := p + c.length + 1 + cc2.length + 1 + cc3.length) w4) (Nat.le_refl _)
  have e5 : ∀ k, μ10.1 (tx + 5) k = μ9.1 (tx + 5) k := fun k => by rw [z4]
  refine ⟨μ10, by rw [z1, Option.bind_some], F8.tr (w2.tr z2), ?_, ?_, fun k hk => ?_⟩
  · show CS tx μ10 b n m (j3 + 1) (p + (c ++ (23, p + c.length + 1 + cc2.length + 1) :: cc2 ++ (24, p + c.length + 1 + cc2.length + 1 + cc3.length) :: cc3).length)
    rw [List.length_append, List.length_append, List.length_cons, List.length_cons, show p + (c.length + (cc2.length + 1) + (cc3.length + 1)) = p + c.length + 1 + cc2.length + 1 + cc3.length by omega]
    exact z3
  · have K1 : CW tx μ10 (p + c.length) [(23, p + c.length + 1 + cc2.length + 1)] := CW_one (by rw [e5, (B89 _ (by omega)).1]; exact o7) (by rw [z5 _ (by omega), (B89 _ (by omega)).2]; exact a6)
    have K2 : CW tx μ10 (p + c.length + 1 + cc2.length) [(24, p + c.length + 1 + cc2.length + 1 + cc3.length)] := CW_one (by rw [e5, (B89 _ (by omega)).1]; exact o7b) z6
    have A1 : CW tx μ10 p (c ++ ([(23, p + c.length + 1 + cc2.length + 1)] ++ cc2)) := CW_app (CW_aim W9 z4 z5 (Or.inr (by omega))) (CW_app K1 (CW_aim W9b z4 z5 (Or.inr (Nat.le_refl _))))
    have A2 : CW tx μ10 (p + c.length + 1 + cc2.length) ([(24, p + c.length + 1 + cc2.length + 1 + cc3.length)] ++ cc3) := CW_app K2 (CW_aim W9c z4 z5 (Or.inl (by show p + c.length + 1 + cc2.length < p + c.length + 1 + cc2.length + 1; omega)))
    refine CW_app A1 ?_
    have eL : p + (c ++ (23, p + c.length + 1 + cc2.length + 1) :: cc2).length = p + c.length + 1 + cc2.length := by
      rw [List.length_append, List.length_cons]
      omega
    rw [eL]
    exact A2
  · rw [e5, z5 k (by omega), (B89 k (by omega)).1, (B89 k (by omega)).2]
    exact B7 k hk
theorem rd_all (htx : 343 ≤ tx ∧ tx ≤ 364) (hlk : lk < 64) : ∀ N, (∀ k, k ≤ 6 → RDP tx b n m lk N k) ∧ RDL tx b n m lk N 7 1 (fun tx rec a0 v μ => lbX6_readSum_B_7 tx rec a0 v μ) ∧ RDL tx b n m lk N 8 2 (fun tx rec a0 v μ => lbX6_readProduct_B_7 tx rec a0 v μ) ∧ RDL tx b n m lk N 9 5 (fun tx rec a0 v μ => lbX6_readEither_B_7 tx rec a0 v μ) ∧ RDL tx b n m lk N 10 6 (fun tx rec a0 v μ => lbX6_readBoth_B_7 tx rec a0 v μ) := by
  intro N
  induction N with
  | zero =>
    refine ⟨fun k _ d i p r F μ h => ?_, fun d i p r F fuel cnt μ h => ?_, fun d i p r F fuel cnt μ h => ?_, fun d i p r F fuel cnt μ h => ?_, fun d i p r F fuel cnt μ h => ?_⟩ <;> cases h
  | succ N ih =>
    obtain ⟨P, LS, LP, LE, LB⟩ := ih
    refine ⟨fun k hk => ?_, ?_, ?_, ?_, ?_⟩
    · match k, hk with
      | 0, _ => exact fun d i p r F μ hr hd hF h hl hp => rd_two (k := 1) (k' := 7) (by omega) (lbk_S (b := b) (n := n) (m := m)).2.1 (P 1 (by omega)) LS (by decide) (fun F μ x => rfl) hr hd hF h hl hp
      | 1, _ => exact fun d i p r F μ hr hd hF h hl hp => rd_two (k := 2) (k' := 8) (by omega) (lbk_P (b := b) (n := n) (m := m)).2.1 (P 2 (by omega)) LP (by decide) (fun F μ x => rfl) hr hd hF h hl hp
      | 2, _ => exact fun d i p r F μ hr hd hF h hl hp => rd_one htx hlk (P 0 (by omega)) (P 2 (by omega)) (P 3 (by omega)) hr hd hF h hl hp
      | 3, _ => exact fun d i p r F μ hr hd hF h hl hp => rd_choice htx (P 0 (by omega)) (P 4 (by omega)) hr hd hF h hl hp
      | 4, _ => exact fun d i p r F μ hr hd hF h hl hp => rd_two (k := 5) (k' := 9) (by omega) (lbk_E (b := b) (n := n) (m := m)).2.1 (P 5 (by omega)) LE (by decide) (fun F μ x => rfl) hr hd hF h hl hp
      | 5, _ => exact fun d i p r F μ hr hd hF h hl hp => rd_two (k := 6) (k' := 10) (by omega) (lbk_B (b := b) (n := n) (m := m)).2.1 (P 6 (by omega)) LB (by decide) (fun F μ x => rfl) hr hd hF h hl hp
      | 6, _ => exact fun d i p r F μ hr hd hF h hl hp => rd_ask htx (P 0 (by omega)) (P 6 (by omega)) hr hd hF h hl hp
    · exact fun d i p r F fuel cnt μ hr hd hF h hl hp hc hf => rd_more htx (by omega) lbk_S (P 1 (by omega)) LS hr hd hF h hl hp hc hf
    · exact fun d i p r F fuel cnt μ hr hd hF h hl hp hc hf => rd_more htx (by omega) lbk_P (P 2 (by omega)) LP hr hd hF h hl hp hc hf
    · exact fun d i p r F fuel cnt μ hr hd hF h hl hp hc hf => rd_more htx (by omega) lbk_E (P 5 (by omega)) LE hr hd hF h hl hp hc hf
    · exact fun d i p r F fuel cnt μ hr hd hF h hl hp hc hf => rd_more htx (by omega) lbk_B (P 6 (by omega)) LB hr hd hF h hl hp hc hf
/-- a whole SUM of the class -/
theorem cr_sum {N i p : Nat} {r : pz_R} {μ : PM} (htx : 343 ≤ tx ∧ tx ≤ 364) (hlk : lk < 64) (hr : pz_P (tk_t b n) (tk_v b n) lk N 0 0 i p = some r) (h : CS tx μ b n m i p) (hl : μ.1 372 7 = nI lk) (hp : p ≤ i) : RDR tx μ b n m p r (fX6_readSum tx μ 0) :=
  (rd_all htx hlk N).1 0 (by omega) 0 i p r 60 μ hr (by omega) (by decide) h hl hp
end CR3
