/-! ===== the class's readers, all ===== -/
theorem CW_aim {tx p a : Nat} {μ μ' : PM} {c : pz_C} (h : CW tx μ p c) (h5 : μ'.1 (tx + 5) = μ.1 (tx + 5)) (h6 : ∀ k, k ≠ a → μ'.1 (tx + 6) k = μ.1 (tx + 6) k) (ha : a < p ∨ p + c.length ≤ a) : CW tx μ' p c := fun k hk => by rw [h5, h6 (p + k) (by omega)]; exact h k hk
section CR2
variable {b : Nat → Nat} {n m tx lk : Nat}
theorem lbk_S : LBOK tx b n m 1 pz_gS (fun tx rec a0 v μ => lbX6_readSum_B_7 tx rec a0 v μ) := by
  refine ⟨rfl, fun rec a0 v μ h => (lb_x h rec a0 v).1, fun rec a0 v μ i p h hg => ?_, fun rec a0 cnt μ i p y h hc hg => ?_⟩
  · have q4 := cs_is (x := 44) h (by omega)
    have q5 := cs_is (x := 45) h (by omega)
    unfold pz_gS at hg
    by_cases c4 : tk_t b n i = 44
    · rw [if_pos c4] at hg; cases hg
    rw [if_neg c4] at hg
    by_cases c5 : tk_t b n i = 45
    · rw [if_pos c5] at hg; cases hg
    show lbX6_readSum_B_7 tx rec a0 v μ = _
    unfold lbX6_readSum_B_7
    by_cases c : (300 : Int32) ≤ v
    · rw [if_pos c]
    · rw [if_neg c, if_neg (fun z => c4 (q4.mp z)), if_neg (fun z => c5 (q5.mp z))]
  · have q4 := cs_is (x := 44) h (by omega)
    have q5 := cs_is (x := 45) h (by omega)
    have e6 := h.2.2.2.2.1
    show lbX6_readSum_B_7 tx rec a0 (nI cnt) μ = _
    unfold lbX6_readSum_B_7 jjX6_readSum_B_32_7
    rw [if_neg (show ¬ (300 : Int32) ≤ nI cnt by rw [l_le (n := 300) (by omega) (by omega)]; omega)]
    by_cases c4 : tk_t b n i = 44
    · rw [if_pos (q4.mpr c4), e6]
    rw [if_neg (fun z => c4 (q4.mp z))]
    by_cases c5 : tk_t b n i = 45
    · rw [if_pos (q5.mpr c5), e6]
    · unfold pz_gS at hg
      rw [if_neg c4, if_neg c5] at hg
      cases hg
theorem lbk_P : LBOK tx b n m 2 pz_gP (fun tx rec a0 v μ => lbX6_readProduct_B_7 tx rec a0 v μ) := by
  refine ⟨rfl, fun rec a0 v μ h => (lb_x h rec a0 v).2.1, fun rec a0 v μ i p h hg => ?_, fun rec a0 cnt μ i p y h hc hg => ?_⟩
  · have q4 := cs_is (x := 46) h (by omega)
    have q5 := cs_is (x := 47) h (by omega)
    unfold pz_gP at hg
    by_cases c4 : tk_t b n i = 46
    · rw [if_pos c4] at hg; cases hg
    rw [if_neg c4] at hg
    by_cases c5 : tk_t b n i = 47
    · rw [if_pos c5] at hg; cases hg
    show lbX6_readProduct_B_7 tx rec a0 v μ = _
    unfold lbX6_readProduct_B_7
    by_cases c : (300 : Int32) ≤ v
    · rw [if_pos c]
    · rw [if_neg c, if_neg (fun z => c4 (q4.mp z)), if_neg (fun z => c5 (q5.mp z))]
  · have q4 := cs_is (x := 46) h (by omega)
    have q5 := cs_is (x := 47) h (by omega)
    have e6 := h.2.2.2.2.1
    show lbX6_readProduct_B_7 tx rec a0 (nI cnt) μ = _
    unfold lbX6_readProduct_B_7 jjX6_readProduct_B_32_7
    rw [if_neg (show ¬ (300 : Int32) ≤ nI cnt by rw [l_le (n := 300) (by omega) (by omega)]; omega)]
    by_cases c4 : tk_t b n i = 46
    · rw [if_pos (q4.mpr c4), e6]
    rw [if_neg (fun z => c4 (q4.mp z))]
    by_cases c5 : tk_t b n i = 47
    · rw [if_pos (q5.mpr c5), e6]
    · unfold pz_gP at hg
      rw [if_neg c4, if_neg c5] at hg
      cases hg
theorem lbk_E : LBOK tx b n m 5 pz_gE (fun tx rec a0 v μ => lbX6_readEither_B_7 tx rec a0 v μ) := by
  refine ⟨rfl, fun rec a0 v μ h => (lb_x h rec a0 v).2.2.1, fun rec a0 v μ i p h hg => ?_, fun rec a0 cnt μ i p y h hc hg => ?_⟩
  · have q4 := cs_is (x := 26) h (by omega)
    unfold pz_gE at hg
    by_cases c4 : tk_t b n i = 26
    · rw [if_pos c4] at hg; cases hg
    show lbX6_readEither_B_7 tx rec a0 v μ = _
    unfold lbX6_readEither_B_7
    by_cases c : (300 : Int32) ≤ v
    · rw [if_pos c]
    · rw [if_neg c, if_neg (fun z => c4 (q4.mp z))]
  · have q4 := cs_is (x := 26) h (by omega)
    show lbX6_readEither_B_7 tx rec a0 (nI cnt) μ = _
    unfold lbX6_readEither_B_7
    rw [if_neg (show ¬ (300 : Int32) ≤ nI cnt by rw [l_le (n := 300) (by omega) (by omega)]; omega)]
    by_cases c4 : tk_t b n i = 26
    · rw [if_pos (q4.mpr c4), c4]
      rfl
    · unfold pz_gE at hg
      rw [if_neg c4] at hg
      cases hg
theorem lbk_B : LBOK tx b n m 6 pz_gB (fun tx rec a0 v μ => lbX6_readBoth_B_7 tx rec a0 v μ) := by
  refine ⟨rfl, fun rec a0 v μ h => (lb_x h rec a0 v).2.2.2, fun rec a0 v μ i p h hg => ?_, fun rec a0 cnt μ i p y h hc hg => ?_⟩
  · have q4 := cs_is (x := 27) h (by omega)
    unfold pz_gB at hg
    by_cases c4 : tk_t b n i = 27
    · rw [if_pos c4] at hg; cases hg
    show lbX6_readBoth_B_7 tx rec a0 v μ = _
    unfold lbX6_readBoth_B_7
    by_cases c : (300 : Int32) ≤ v
    · rw [if_pos c]
    · rw [if_neg c, if_neg (fun z => c4 (q4.mp z))]
  · have q4 := cs_is (x := 27) h (by omega)
    show lbX6_readBoth_B_7 tx rec a0 (nI cnt) μ = _
    unfold lbX6_readBoth_B_7
    rw [if_neg (show ¬ (300 : Int32) ≤ nI cnt by rw [l_le (n := 300) (by omega) (by omega)]; omega)]
    by_cases c4 : tk_t b n i = 27
    · rw [if_pos (q4.mpr c4), c4]
      rfl
    · unfold pz_gB at hg
      rw [if_neg c4] at hg
      cases hg
theorem vh_e {μ : PM} {i : Nat} (h : μ.1 372 5 = nI i) (hi : i ≤ 300) : fX6_valueHere μ = some (μ.1 375 i) := by
  unfold fX6_valueHere
  rw [h, if_neg (nI_pos (show i < 2147483648 by omega)), if_neg (show ¬ (300 : Int32) < nI i by rw [l_lt (n := 300) (by omega) (by omega)]; omega), chk_n (show i < 301 by omega) (by omega), cl_n (show i < 2147483648 by omega)]
theorem cs_take {μ : PM} {i p lo hi : Nat} (htx : 343 ≤ tx ∧ tx ≤ 364) (h : CS tx μ b n m i p) (hh : hi ≤ 9999) (hlo : lo ≤ 9999) : match tz_fig (tk_t b n) (tk_v b n) lo hi i with
    | .inl e => ∃ μ', fX6_takeWithin μ (nI lo) (nI hi) = some (nI lo, μ') ∧ CF tx μ μ' ∧ CX tx μ' b n e
    | .inr x => x < 10000 ∧ ∃ μ', fX6_takeWithin μ (nI lo) (nI hi) = some (nI x, μ') ∧ CF tx μ μ' ∧ CS tx μ' b n m (i + 1) p ∧ (∀ c, c ≠ 372 → μ'.1 c = μ.1 c) := by
  have q := cs_is (x := 32) h (by omega)
  have hm := h.1.1
  have him := h.2.1
  unfold tz_fig fX6_takeWithin
  by_cases c : tk_t b n i = 32
  · have l := tkc_lt h.1 him (by rw [c]; decide)
    have ev := h.1.2.2.2.2 i l c
    rw [if_pos c, if_pos (q.mpr c), vh_e h.2.2.2.1 (show i ≤ 300 by omega), Option.bind_some]
    rw [ev]
    have l1 : nI (min (tk_v b n i) 10000) < nI lo ↔ min (tk_v b n i) 10000 < lo := lt_n (by omega) (by omega)
    have l2 : nI (min (tk_v b n i) 10000) ≤ nI hi ↔ min (tk_v b n i) 10000 ≤ hi := le_n (by omega) (by omega)
    obtain ⟨μ1, k1, k2, k3, -⟩ := cs_ref (e := 2) htx h (by decide) (by decide)
    have k1 : fX6_refuse μ 2 = some μ1 := k1
    have jj : jjX6_takeWithin_31 μ (nI lo) (nI hi) = some (nI lo, μ1) := by
      unfold jjX6_takeWithin_31
      rw [k1, Option.bind_some]
    by_cases r : lo ≤ tk_v b n i ∧ tk_v b n i ≤ hi
    · rw [if_pos r, if_neg (fun z => by have := l1.mp z; omega), if_pos (l2.mpr (by omega))]
      obtain ⟨μ2, a1, a2, a3, a4⟩ := cs_adv htx h (by rw [c]; decide)
      refine ⟨by omega, μ2, ?_, a2, a3, a4⟩
      rw [a1, Option.bind_some, show min (tk_v b n i) 10000 = tk_v b n i by omega]
    · rw [if_neg r]
      by_cases r1 : min (tk_v b n i) 10000 < lo
      · rw [if_pos (l1.mpr r1), jj]
        exact ⟨μ1, rfl, k2, k3⟩
      · rw [if_neg (fun z => r1 (l1.mp z)), if_neg (fun z => r (by have := l2.mp z; omega)), jj]
        exact ⟨μ1, rfl, k2, k3⟩
  · rw [if_neg c, if_neg (fun z => c (q.mp z))]
    obtain ⟨μ1, k1, k2, k3, -⟩ := cs_ref (e := 1) htx h (by decide) (by decide)
    have k1 : fX6_refuse μ 1 = some μ1 := k1
    exact ⟨μ1, by rw [k1, Option.bind_some], k2, k3⟩
theorem cs_open {μ : PM} {i p d : Nat} (htx : 343 ≤ tx ∧ tx ≤ 364) (h : CS tx μ b n m i p) (hd : d ≤ 8) (ht : tk_t b n i ≠ 53) :
    (8 ≤ d ∧ ∃ μ', fX6_opens μ (nI d) = some (0, μ') ∧ CF tx μ μ' ∧ CX tx μ' b n (3, i)) ∨
    (d < 8 ∧ ∃ μ', fX6_opens μ (nI d) = some (1, μ') ∧ CF tx μ μ' ∧ CS tx μ' b n m (i + 1) p ∧ (∀ c, c ≠ 372 → μ'.1 c = μ.1 c)) := by
  have l : nI d < 8 ↔ d < 8 := lt_l (n := 8) (by omega) (by omega)
  unfold fX6_opens
  by_cases c : d < 8
  · rw [if_pos (l.mpr c)]
    obtain ⟨μ1, a1, a2, a3, a4⟩ := cs_adv htx h ht
    exact Or.inr ⟨c, μ1, by rw [a1, Option.bind_some], a2, a3, a4⟩
  · rw [if_neg (fun z => c (l.mp z))]
    obtain ⟨μ1, k1, k2, k3, -⟩ := cs_ref (e := 3) htx h (by decide) (by decide)
    have k1 : fX6_refuse μ 3 = some μ1 := k1
    exact Or.inl ⟨by omega, μ1, by rw [k1, Option.bind_some], k2, k3⟩
/-- one that is read, then written behind -/
theorem rd_un {μ μ1 : PM} {p o y : Nat} {A : Option pz_R} {R : Option PM} {r : pz_R} (htx : 343 ≤ tx ∧ tx ≤ 364) (hF : CF tx μ μ1) (hc : ∀ c, c ≠ 372 → μ1.1 c = μ.1 c) (hA : ∀ r', A = some r' → RDR tx μ1 b n m p r' R) (hb : ∀ j c q, A = some (.inr (j, c, q)) → p + c.length < 320) (hr : pz_bind A (fun j c q => some (.inr (j, c ++ [(o, 0)], q ++ [(y, 0)]))) = some r) : RDR tx μ b n m p r (R.bind fun q3 => (fX8_emit q3 tx (nI o) 0).bind fun q4 => some (q4.2)) := by
  have cb1 : CB tx μ μ1 p := fun k _ => by rw [hc (tx + 5) (by omega), hc (tx + 6) (by omega)]; exact ⟨rfl, rfl⟩
  rcases pz_bind_e hr with ⟨e, e1, rfl⟩ | ⟨j, c, q, e1, hr⟩
  · obtain ⟨μ2, c1, c2, c3⟩ := hA _ e1
    obtain ⟨z, μ3, d1, -, d2, d3⟩ := cx_emit htx c3 (nI o) 0
    exact ⟨μ3, by rw [c1, Option.bind_some, d1, Option.bind_some], hF.tr (c2.tr d2), d3⟩
  · obtain ⟨μ2, c1, c2, c3, c4, c5⟩ := hA _ e1
    have c3 : CS tx μ2 b n m j (p + c.length) := c3
    have c4 : CW tx μ2 p c := c4
    obtain ⟨μ3, d1, d2, d3, d4, d5⟩ := cs_emit (a := o) (v := 0) htx c3 (hb j c q e1)
    have d1 : fX8_emit μ2 tx (nI o) 0 = some (nI (p + c.length), μ3) := d1
    cases hr
    refine ⟨μ3, by rw [c1, Option.bind_some, d1, Option.bind_some], hF.tr (c2.tr d2), ?_, CW_app (CW_cb c4 d5 (Nat.le_refl _)) d4, (cb1.tr c5 (Nat.le_refl _)).tr d5 (by omega)⟩
    show CS tx μ3 b n m j (p + (c ++ [(o, 0)]).length)
    rw [List.length_append]
    exact d3
theorem RDR_pre {μ μ1 : PM} {p : Nat} {r : pz_R} {R : Option PM} (hF : CF tx μ μ1) (hc : ∀ c, c ≠ 372 → μ1.1 c = μ.1 c) (htx : 343 ≤ tx ∧ tx ≤ 364) (h : RDR tx μ1 b n m p r R) : RDR tx μ b n m p r (R.bind fun q3 => some (q3)) := by
  have cb1 : CB tx μ μ1 p := fun k _ => by rw [hc (tx + 5) (by omega), hc (tx + 6) (by omega)]; exact ⟨rfl, rfl⟩
  cases r with
  | inl e =>
    obtain ⟨μ2, c1, c2, c3⟩ := h
    exact ⟨μ2, by rw [c1, Option.bind_some], hF.tr c2, c3⟩
  | inr x =>
    obtain ⟨μ2, c1, c2, c3, c4, c5⟩ := h
    exact ⟨μ2, by rw [c1, Option.bind_some], hF.tr c2, c3, c4, cb1.tr c5 (Nat.le_refl _)⟩
theorem rd_one {N : Nat} (htx : 343 ≤ tx ∧ tx ≤ 364) (hlk : lk < 64) (h0 : RDP tx b n m lk N 0) (h2 : RDP tx b n m lk N 2) (h3 : RDP tx b n m lk N 3)
    {d i p : Nat} {r : pz_R} {F : Nat} {μ : PM} (hr : pz_one (tk_t b n) (tk_v b n) lk (pz_P (tk_t b n) (tk_v b n) lk N) d i p = some r) (hd : d ≤ 8) (hF : pz_rk 2 + 7 * (8 - d) ≤ F) (h : CS tx μ b n m i p) (hl : μ.1 372 7 = nI lk) (hp : p ≤ i) : RDR tx μ b n m p r (rdF tx F 2 μ (nI d)) := by
  have hF : 1 + 7 * (8 - d) ≤ F := hF
  obtain ⟨F, rfl⟩ : ∃ f, F = f + 1 := ⟨F - 1, by omega⟩
  have hm := h.1.1
  have him := h.2.1
  have e6 := h.2.2.2.2.1
  have t54 := tk_t_le b n i
  show RDR tx μ b n m p r (fX6_readOne_B tx μ (rdF tx F) (nI d))
  have q22 := cs_is (x := 22) h (by omega)
  have q29 := cs_is (x := 29) h (by omega)
  have q30 := cs_is (x := 30) h (by omega)
  have q32 := cs_is (x := 32) h (by omega)
  have q45 := cs_is (x := 45) h (by omega)
  have q48 := cs_is (x := 48) h (by omega)
  have l10 : μ.1 372 6 < 10 ↔ tk_t b n i < 10 := by rw [e6]; exact lt_l (n := 10) (by omega) (by omega)
  have l18 : (18 : Int32) < μ.1 372 6 ↔ 18 < tk_t b n i := by rw [e6]; exact l_lt (n := 18) (by omega) (by omega)
  unfold fX6_readOne_B
  unfold pz_one at hr
  by_cases cn : 10 ≤ tk_t b n i ∧ tk_t b n i ≤ 18
  · rw [if_pos cn] at hr
    rw [if_neg (fun z => by have := l10.mp z; omega), if_neg (fun z => by have := l18.mp z; omega)]
    have n53 : tk_t b n i ≠ 53 := by omega
    have l := tkc_lt h.1 him n53
    unfold fX6_readKnown
    rw [e6, hl]
    by_cases ck : lk < tk_t b n i
    · rw [if_pos ck] at hr
      cases hr
      rw [if_neg (show ¬ nI (tk_t b n i) ≤ nI lk by rw [le_n (by omega) (by omega)]; omega)]
      obtain ⟨μ1, k1, k2, k3, -⟩ := cs_ref (e := 5) htx h (by decide) (by decide)
      have k1 : fX6_refuse μ 5 = some μ1 := k1
      exact ⟨μ1, by rw [k1, Option.bind_some, Option.bind_some], k2, k3⟩
    · rw [if_neg ck] at hr
      cases hr
      rw [if_pos (show nI (tk_t b n i) ≤ nI lk by rw [le_n (by omega) (by omega)]; omega), sub_l (n := 10) cn.1]
      obtain ⟨μ1, d1, d2, d3, d4, d5⟩ := cs_emit (a := 10) (v := tk_t b n i - 10) htx h (by omega)
      have d1 : fX8_emit μ tx 10 (nI (tk_t b n i - 10)) = some (nI p, μ1) := d1
      obtain ⟨μ2, a1, a2, a3, a4⟩ := cs_adv htx d3 n53
      refine ⟨μ2, ?_, d2.tr a2, a3, fun k hk => ?_, fun k hk => ?_⟩
      · rw [d1, Option.bind_some]
        dsimp only
        rw [a1, Option.bind_some, Option.bind_some]
      · rw [a4 (tx + 5) (by omega), a4 (tx + 6) (by omega)]
        exact d4 k hk
      · rw [a4 (tx + 5) (by omega), a4 (tx + 6) (by omega)]
        exact d5 k hk
  rw [if_neg cn] at hr
  have J : RDR tx μ b n m p r (jjX6_readOne_B_23 tx μ (rdF tx F) (nI d)) := by
    unfold jjX6_readOne_B_23
    -- what is read one deeper
    have deep : ∀ {k : Nat} {i' p' : Nat} {r' : pz_R} {μ' : PM}, (k = 0 ∨ k = 2 ∨ k = 3) → d < 8 → pz_P (tk_t b n) (tk_v b n) lk N k (d + 1) i' p' = some r' → CS tx μ' b n m i' p' → CF tx μ μ' → p' ≤ i' → RDR tx μ' b n m p' r' (rdF tx F k μ' (nI d + 1)) := fun {k i' p' r' μ'} hk hd8 hP hS hC hp' => by
      rw [add_l 1]
      have hl' : μ'.1 372 7 = nI lk := (hC.2.1 7 (by omega) (by omega) (by omega) (by omega)).trans hl
      rcases hk with rfl | rfl | rfl
      · exact h0 (d + 1) i' p' r' F μ' hP (by omega) (show 3 + 7 * (8 - (d + 1)) ≤ F by omega) hS hl' hp'
      · exact h2 (d + 1) i' p' r' F μ' hP (by omega) (show 1 + 7 * (8 - (d + 1)) ≤ F by omega) hS hl' hp'
      · exact h3 (d + 1) i' p' r' F μ' hP (by omega) (show 7 + 7 * (8 - (d + 1)) ≤ F by omega) hS hl' hp'
    have ln : ∀ {k i' p' j : Nat} {c q : pz_C}, pz_P (tk_t b n) (tk_v b n) lk N k (d + 1) i' p' = some (.inr (j, c, q)) → c.length + i' ≤ j := fun hP => (pz_len _ _ _ _ _ _ _ _ hP).1
    by_cases c22 : tk_t b n i = 22
    · rw [if_neg (show ¬ tk_t b n i = 32 by omega), if_neg (show ¬ tk_t b n i = 48 by omega), if_neg (show ¬ tk_t b n i = 45 by omega), if_neg (show ¬ tk_t b n i = 29 by omega), if_neg (show ¬ tk_t b n i = 30 by omega), if_pos c22] at hr
      rw [if_pos (q22.mpr c22)]
      unfold pz_open at hr
      rcases cs_open htx h hd (by omega) with ⟨o1, μ1, o2, o3, o4⟩ | ⟨o1, μ1, o2, o3, o4, o5⟩
      · rw [if_pos o1] at hr
        cases hr
        exact ⟨μ1, by rw [o2, Option.bind_some, if_pos rfl], o3, o4⟩
      · rw [if_neg (by omega)] at hr
        rw [o2, Option.bind_some, if_neg (show ¬ (1 : Int32) = 0 by decide)]
        exact RDR_pre o3 o5 htx (deep (Or.inr (Or.inr rfl)) o1 hr o4 o3 (by omega))
    rw [if_neg (fun z => c22 (q22.mp z))]
    by_cases c29 : tk_t b n i = 29
    · rw [if_neg (show ¬ tk_t b n i = 32 by omega), if_neg (show ¬ tk_t b n i = 48 by omega), if_neg (show ¬ tk_t b n i = 45 by omega), if_pos c29] at hr
      rw [if_pos (q29.mpr c29)]
      unfold pz_open at hr
      rcases cs_open htx h hd (by omega) with ⟨o1, μ1, o2, o3, o4⟩ | ⟨o1, μ1, o2, o3, o4, o5⟩
      · rw [if_pos o1] at hr
        cases hr
        exact ⟨μ1, by rw [o2, Option.bind_some, if_pos rfl], o3, o4⟩
      rw [if_neg (by omega)] at hr
      rw [o2, Option.bind_some, if_neg (show ¬ (1 : Int32) = 0 by decide)]
      have fx : ∀ {e : Nat × Nat} {μ' : PM}, CX tx μ' b n e → ∃ μ'', ((rdF tx F 2 μ' (nI d + 1)).bind fun q8 => (fX8_emit q8 tx 29 0).bind fun q9 => some (q9.2)) = some μ'' ∧ CF tx μ' μ'' ∧ CX tx μ'' b n e := fun {e μ'} hX => by
        obtain ⟨μ2, s1, s2, s3⟩ := rd_x htx F 2 μ' (nI d + 1) hX (by omega) (show 1 ≤ F by omega)
        obtain ⟨z, μ3, d1, -, d2, d3⟩ := cx_emit htx s3 29 0
        exact ⟨μ3, by rw [s1, Option.bind_some, d1, Option.bind_some], s2.tr d2, d3⟩
      rcases pz_bind_e hr with ⟨e, e1, rfl⟩ | ⟨j, c, q, e1, hr⟩
      · obtain ⟨μ2, c1, c2, c3⟩ := deep (Or.inr (Or.inl rfl)) o1 e1 o4 o3 (by omega)
        obtain ⟨μ3, x1, x2, x3⟩ := cx_exp (a := 21) htx c3 (by decide)
        obtain ⟨μ4, y1, y2, y3⟩ := fx x3
        exact ⟨μ4, by rw [c1, Option.bind_some, x1, Option.bind_some, y1], o3.tr (c2.tr (x2.tr y2)), y3⟩
      · have pl := ln e1
        obtain ⟨μ2, c1, c2, c3, c4, c5⟩ := deep (Or.inr (Or.inl rfl)) o1 e1 o4 o3 (by omega)
        have c3 : CS tx μ2 b n m j (p + c.length) := c3
        have c4 : CW tx μ2 p c := c4
        rw [c1, Option.bind_some]
        have cb2 : CB tx μ μ2 p := fun k hk => by rw [← o5 (tx + 5) (by omega), ← o5 (tx + 6) (by omega)]; exact c5 k hk
        unfold pz_want at hr
        rcases cs_exp (x := 21) htx c3 (by omega) (by decide) with ⟨x0, μ3, x1, x2, x3, x4⟩ | ⟨x0, μ3, x1, x2, x3⟩
        · have x1 : fX6_expect μ2 21 = some μ3 := x1
          rw [if_pos x0] at hr
          rw [x1, Option.bind_some]
          rcases pz_bind_e hr with ⟨e, e2, rfl⟩ | ⟨j', c', q', e2, hr⟩
          · obtain ⟨μ4, s1, s2, s3⟩ := deep (Or.inr (Or.inl rfl)) o1 e2 x3 (o3.tr (c2.tr x2)) (by omega)
            obtain ⟨z, μ5, d1, -, d2, d3⟩ := cx_emit htx s3 29 0
            exact ⟨μ5, by rw [s1, Option.bind_some, d1, Option.bind_some], o3.tr (c2.tr (x2.tr (s2.tr d2))), d3⟩
          · have pl2 := ln e2
            obtain ⟨μ4, s1, s2, s3, s4, s5⟩ := deep (Or.inr (Or.inl rfl)) o1 e2 x3 (o3.tr (c2.tr x2)) (by omega)
            have s3 : CS tx μ4 b n m j' (p + c.length + c'.length) := s3
            have s4 : CW tx μ4 (p + c.length) c' := s4
            have hj' := s3.2.1
            obtain ⟨μ5, d1, d2, d3, d4, d5⟩ := cs_emit (a := 29) (v := 0) htx s3 (by omega)
            have d1 : fX8_emit μ4 tx 29 0 = some (nI (p + c.length + c'.length), μ5) := d1
            cases hr
            have cb3 : CB tx μ2 μ3 (p + c.length) := fun k _ => by rw [x4 (tx + 5) (by omega), x4 (tx + 6) (by omega)]; exact ⟨rfl, rfl⟩
            refine ⟨μ5, by rw [s1, Option.bind_some, d1, Option.bind_some], o3.tr (c2.tr (x2.tr (s2.tr d2))), ?_, ?_, ((cb2.tr cb3 (by omega)).tr s5 (by omega)).tr d5 (by omega)⟩
            · show CS tx μ5 b n m j' (p + (c ++ c' ++ [(29, 0)]).length)
              rw [List.length_append, List.length_append, show p + (c.length + c'.length + [(29, 0)].length) = p + c.length + c'.length + 1 by show p + (c.length + c'.length + 1) = _; omega]
              exact d3
            · refine CW_app (CW_app (CW_cb (CW_cb (CW_cb c4 cb3 (Nat.le_refl _)) s5 (Nat.le_refl _)) d5 (by omega)) (CW_cb s4 d5 (Nat.le_refl _))) ?_
              rw [List.length_append, ← Nat.add_assoc]
              exact d4
        · have x1 : fX6_expect μ2 21 = some μ3 := x1
          rw [if_neg x0] at hr
          cases hr
          obtain ⟨μ4, y1, y2, y3⟩ := fx x3
          exact ⟨μ4, by rw [x1, Option.bind_some, y1], o3.tr (c2.tr (x2.tr y2)), y3⟩
    rw [if_neg (fun z => c29 (q29.mp z))]
    by_cases c30 : tk_t b n i = 30
    · rw [if_neg (show ¬ tk_t b n i = 32 by omega), if_neg (show ¬ tk_t b n i = 48 by omega), if_neg (show ¬ tk_t b n i = 45 by omega), if_neg c29, if_pos c30] at hr
      rw [if_pos (q30.mpr c30)]
      unfold pz_open at hr
      rcases cs_open htx h hd (by omega) with ⟨o1, μ1, o2, o3, o4⟩ | ⟨o1, μ1, o2, o3, o4, o5⟩
      · rw [if_pos o1] at hr
        cases hr
        exact ⟨μ1, by rw [o2, Option.bind_some, if_pos rfl], o3, o4⟩
      · rw [if_neg (by omega)] at hr
        rw [o2, Option.bind_some, if_neg (show ¬ (1 : Int32) = 0 by decide)]
        refine rd_un (o := 30) htx o3 o5 (fun r' e1 => deep (Or.inr (Or.inl rfl)) o1 e1 o4 o3 (by omega)) (fun j c q e1 => ?_) hr
        have pl := ln e1
        obtain ⟨μ2, -, -, c3, -⟩ := deep (Or.inr (Or.inl rfl)) o1 e1 o4 o3 (by omega)
        have hj : j ≤ m := c3.2.1
        omega
    rw [if_neg (fun z => c30 (q30.mp z))]
    by_cases c32 : tk_t b n i = 32
    · rw [if_pos c32] at hr
      rw [if_pos (q32.mpr c32)]
      have l := tkc_lt h.1 him (by omega)
      have k := cs_take (lo := 0) (hi := 9999) htx h (by omega) (by omega)
      unfold tz_fig at k
      rw [if_pos c32] at k
      by_cases c9 : 9999 < tk_v b n i
      · rw [if_neg (by omega)] at k
        rw [if_pos c9] at hr
        cases hr
        obtain ⟨μ1, k1, k2, k3⟩ := k
        have k1 : fX6_takeWithin μ 0 9999 = some (0, μ1) := k1
        obtain ⟨z, μ2, d1, -, d2, d3⟩ := cx_emit htx k3 32 0
        refine ⟨μ2, ?_, k2.tr d2, d3⟩
        rw [k1, Option.bind_some]
        dsimp only
        rw [d1, Option.bind_some]
      · rw [if_pos (by omega)] at k
        rw [if_neg c9] at hr
        cases hr
        obtain ⟨k0, μ1, k1, k2, k3, k4⟩ := k
        have k1 : fX6_takeWithin μ 0 9999 = some (nI (tk_v b n i), μ1) := k1
        obtain ⟨μ2, d1, d2, d3, d4, d5⟩ := cs_emit (a := 32) (v := tk_v b n i) htx k3 (by omega)
        have d1 : fX8_emit μ1 tx 32 (nI (tk_v b n i)) = some (nI p, μ2) := d1
        refine ⟨μ2, ?_, k2.tr d2, d3, d4, fun k hk => ?_⟩
        · rw [k1, Option.bind_some]
          dsimp only
          rw [d1, Option.bind_some]
        · rw [← k4 (tx + 5) (by omega), ← k4 (tx + 6) (by omega)]
          exact d5 k hk
    rw [if_neg c32] at hr
    rw [if_neg (fun z => c32 (q32.mp z))]
    by_cases c45 : tk_t b n i = 45
    · rw [if_neg (show ¬ tk_t b n i = 48 by omega), if_pos c45] at hr
      rw [if_pos (q45.mpr c45)]
      unfold pz_open at hr
      rcases cs_open htx h hd (by omega) with ⟨o1, μ1, o2, o3, o4⟩ | ⟨o1, μ1, o2, o3, o4, o5⟩
      · rw [if_pos o1] at hr
        cases hr
        exact ⟨μ1, by rw [o2, Option.bind_some, if_pos rfl], o3, o4⟩
      · rw [if_neg (by omega)] at hr
        rw [o2, Option.bind_some, if_neg (show ¬ (1 : Int32) = 0 by decide)]
        refine rd_un (o := 55) htx o3 o5 (fun r' e1 => deep (Or.inr (Or.inl rfl)) o1 e1 o4 o3 (by omega)) (fun j c q e1 => ?_) hr
        have pl := ln e1
        obtain ⟨μ2, -, -, c3, -⟩ := deep (Or.inr (Or.inl rfl)) o1 e1 o4 o3 (by omega)
        have hj : j ≤ m := c3.2.1
        omega
    rw [if_neg (fun z => c45 (q45.mp z))]
    by_cases c48 : tk_t b n i = 48
    · rw [if_pos c48] at hr
      rw [if_pos (q48.mpr c48)]
      unfold pz_open at hr
      rcases cs_open htx h hd (by omega) with ⟨o1, μ1, o2, o3, o4⟩ | ⟨o1, μ1, o2, o3, o4, o5⟩
      · rw [if_pos o1] at hr
        cases hr
        exact ⟨μ1, by rw [o2, Option.bind_some, if_pos rfl], o3, o4⟩
      rw [if_neg (by omega)] at hr
      rw [o2, Option.bind_some, if_neg (show ¬ (1 : Int32) = 0 by decide)]
      rcases pz_bind_e hr with ⟨e, e1, rfl⟩ | ⟨j, c, q, e1, hr⟩
      · obtain ⟨μ2, c1, c2, c3⟩ := deep (Or.inl rfl) o1 e1 o4 o3 (by omega)
        obtain ⟨μ3, x1, x2, x3⟩ := cx_exp (a := 49) htx c3 (by decide)
        exact ⟨μ3, by rw [c1, Option.bind_some, x1, Option.bind_some], o3.tr (c2.tr x2), x3⟩
      · obtain ⟨μ2, c1, c2, c3, c4, c5⟩ := deep (Or.inl rfl) o1 e1 o4 o3 (by omega)
        have c3 : CS tx μ2 b n m j (p + c.length) := c3
        have c4 : CW tx μ2 p c := c4
        rw [c1, Option.bind_some]
        have cb2 : CB tx μ μ2 p := fun k hk => by rw [← o5 (tx + 5) (by omega), ← o5 (tx + 6) (by omega)]; exact c5 k hk
        unfold pz_want at hr
        rcases cs_exp (x := 49) htx c3 (by omega) (by decide) with ⟨x0, μ3, x1, x2, x3, x4⟩ | ⟨x0, μ3, x1, x2, x3⟩
        · have x1 : fX6_expect μ2 49 = some μ3 := x1
          rw [if_pos x0] at hr
          cases hr
          have cb3 : CB tx μ2 μ3 (p + c.length) := fun k _ => by rw [x4 (tx + 5) (by omega), x4 (tx + 6) (by omega)]; exact ⟨rfl, rfl⟩
          exact ⟨μ3, by rw [x1, Option.bind_some], o3.tr (c2.tr x2), x3, CW_cb c4 cb3 (Nat.le_refl _), cb2.tr cb3 (by omega)⟩
        · have x1 : fX6_expect μ2 49 = some μ3 := x1
          rw [if_neg x0] at hr
          cases hr
          exact ⟨μ3, by rw [x1, Option.bind_some], o3.tr (c2.tr x2), x3⟩
    · rw [if_neg c48, if_neg c45, if_neg c29, if_neg c30, if_neg c22] at hr
      cases hr
      rw [if_neg (fun z => c48 (q48.mp z))]
      obtain ⟨μ1, k1, k2, k3, -⟩ := cs_ref (e := 1) htx h (by decide) (by decide)
      have k1 : fX6_refuse μ 1 = some μ1 := k1
      exact ⟨μ1, by rw [k1, Option.bind_some], k2, k3⟩
  by_cases c10 : tk_t b n i < 10
  · rw [if_pos (l10.mpr c10)]
    exact J
  · rw [if_neg (fun z => c10 (l10.mp z)), if_pos (l18.mpr (by omega))]
    exact J
end CR2
