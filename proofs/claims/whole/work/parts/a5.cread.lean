/-! ===== the class's readers: after a refusal; and in a row ===== -/
def ch_1 (tx : Nat) (μ : PM) (a : Int32) : Option PM := (fX8_aimHere μ tx a).bind fun q10 => some (q10)
def ch_2 (tx : Nat) (μ : PM) (a : Int32) : Option PM := (fX6_expect μ 25).bind fun q9 => ch_1 tx q9 a
def ch_3 (tx : Nat) (rec : Nat → PM → Int32 → Option PM) (a0 : Int32) (μ : PM) (a : Int32) : Option PM := (fX8_emit μ tx 24 0).bind fun q6 => (fX8_aimHere q6.2 tx a).bind fun q7 => (rec 0 q7 a0).bind fun q8 => ch_2 tx q8 q6.1
def ch_4 (tx : Nat) (rec : Nat → PM → Int32 → Option PM) (a0 : Int32) (μ : PM) (a : Int32) : Option PM := (fX6_expect μ 24).bind fun q5 => ch_3 tx rec a0 q5 a
def ch_5 (tx : Nat) (rec : Nat → PM → Int32 → Option PM) (a0 : Int32) (μ : PM) : Option PM := (fX8_emit μ tx 23 0).bind fun q3 => (rec 0 q3.2 a0).bind fun q4 => ch_4 tx rec a0 q4 q3.1
def ch_6 (tx : Nat) (rec : Nat → PM → Int32 → Option PM) (a0 : Int32) (μ : PM) : Option PM := (fX6_expect μ 23).bind fun q2 => ch_5 tx rec a0 q2
theorem ch_eq (tx : Nat) (μ : PM) (rec : Nat → PM → Int32 → Option PM) (a0 : Int32) : fX6_readChoice_B tx μ rec a0 = (rec 4 μ a0).bind fun q1 => ch_6 tx rec a0 q1 := rfl
section CRX
variable {b : Nat → Nat} {n m tx : Nat} {e : Nat × Nat}
theorem ch_1x (htx : 343 ≤ tx ∧ tx ≤ 364) {μ : PM} (h : CX tx μ b n e) {a : Nat} (ha : a ≤ 320) : ∃ μ', ch_1 tx μ (nI a) = some μ' ∧ CF tx μ μ' ∧ CX tx μ' b n e := by
  obtain ⟨μ1, k1, k2, k3⟩ := cx_aim htx h ha
  unfold ch_1
  exact ⟨μ1, by rw [k1, Option.bind_some], k2, k3⟩
theorem ch_2x (htx : 343 ≤ tx ∧ tx ≤ 364) {μ : PM} (h : CX tx μ b n e) {a : Nat} (ha : a ≤ 320) : ∃ μ', ch_2 tx μ (nI a) = some μ' ∧ CF tx μ μ' ∧ CX tx μ' b n e := by
  obtain ⟨μ1, k1, k2, k3⟩ := cx_exp (a := 25) htx h (by decide)
  obtain ⟨μ2, l1, l2, l3⟩ := ch_1x htx k3 ha
  unfold ch_2
  exact ⟨μ2, by rw [k1, Option.bind_some, l1], k2.tr l2, l3⟩
theorem ch_3x (htx : 343 ≤ tx ∧ tx ≤ 364) {rec : Nat → PM → Int32 → Option PM} {a0 : Int32} (hr : ∀ k μ, k = 0 ∨ k = 4 → CX tx μ b n e → ∃ μ', rec k μ a0 = some μ' ∧ CF tx μ μ' ∧ CX tx μ' b n e) {μ : PM} (h : CX tx μ b n e) {a : Nat} (ha : a ≤ 320) : ∃ μ', ch_3 tx rec a0 μ (nI a) = some μ' ∧ CF tx μ μ' ∧ CX tx μ' b n e := by
  obtain ⟨q, μ1, k1, kq, k2, k3⟩ := cx_emit htx h 24 0
  obtain ⟨μ2, l1, l2, l3⟩ := cx_aim htx k3 ha
  obtain ⟨μ3, i1, i2, i3⟩ := hr 0 μ2 (Or.inl rfl) l3
  obtain ⟨μ4, j1, j2, j3⟩ := ch_2x htx i3 kq
  unfold ch_3
  refine ⟨μ4, ?_, k2.tr (l2.tr (i2.tr j2)), j3⟩
  rw [k1, Option.bind_some]
  dsimp only
  rw [l1, Option.bind_some, i1, Option.bind_some, j1]
theorem ch_4x (htx : 343 ≤ tx ∧ tx ≤ 364) {rec : Nat → PM → Int32 → Option PM} {a0 : Int32} (hr : ∀ k μ, k = 0 ∨ k = 4 → CX tx μ b n e → ∃ μ', rec k μ a0 = some μ' ∧ CF tx μ μ' ∧ CX tx μ' b n e) {μ : PM} (h : CX tx μ b n e) {a : Nat} (ha : a ≤ 320) : ∃ μ', ch_4 tx rec a0 μ (nI a) = some μ' ∧ CF tx μ μ' ∧ CX tx μ' b n e := by
  obtain ⟨μ1, k1, k2, k3⟩ := cx_exp (a := 24) htx h (by decide)
  obtain ⟨μ2, l1, l2, l3⟩ := ch_3x htx hr k3 ha
  unfold ch_4
  exact ⟨μ2, by rw [k1, Option.bind_some, l1], k2.tr l2, l3⟩
theorem ch_5x (htx : 343 ≤ tx ∧ tx ≤ 364) {rec : Nat → PM → Int32 → Option PM} {a0 : Int32} (hr : ∀ k μ, k = 0 ∨ k = 4 → CX tx μ b n e → ∃ μ', rec k μ a0 = some μ' ∧ CF tx μ μ' ∧ CX tx μ' b n e) {μ : PM} (h : CX tx μ b n e) : ∃ μ', ch_5 tx rec a0 μ = some μ' ∧ CF tx μ μ' ∧ CX tx μ' b n e := by
  obtain ⟨q, μ1, k1, kq, k2, k3⟩ := cx_emit htx h 23 0
  obtain ⟨μ3, i1, i2, i3⟩ := hr 0 μ1 (Or.inl rfl) k3
  obtain ⟨μ4, j1, j2, j3⟩ := ch_4x htx hr i3 kq
  unfold ch_5
  refine ⟨μ4, ?_, k2.tr (i2.tr j2), j3⟩
  rw [k1, Option.bind_some]
  dsimp only
  rw [i1, Option.bind_some, j1]
theorem ch_6x (htx : 343 ≤ tx ∧ tx ≤ 364) {rec : Nat → PM → Int32 → Option PM} {a0 : Int32} (hr : ∀ k μ, k = 0 ∨ k = 4 → CX tx μ b n e → ∃ μ', rec k μ a0 = some μ' ∧ CF tx μ μ' ∧ CX tx μ' b n e) {μ : PM} (h : CX tx μ b n e) : ∃ μ', ch_6 tx rec a0 μ = some μ' ∧ CF tx μ μ' ∧ CX tx μ' b n e := by
  obtain ⟨μ1, k1, k2, k3⟩ := cx_exp (a := 23) htx h (by decide)
  obtain ⟨μ2, l1, l2, l3⟩ := ch_5x htx hr k3
  unfold ch_6
  exact ⟨μ2, by rw [k1, Option.bind_some, l1], k2.tr l2, l3⟩
/-- a loop of readers ends at once after a refusal -/
theorem lb_x {μ : PM} (h : μ.1 372 6 = 53) (rec : Nat → PM → Int32 → Option PM) (a0 v : Int32) : lbX6_readSum_B_7 tx rec a0 v μ = some (.inr μ) ∧ lbX6_readProduct_B_7 tx rec a0 v μ = some (.inr μ) ∧ lbX6_readEither_B_7 tx rec a0 v μ = some (.inr μ) ∧ lbX6_readBoth_B_7 tx rec a0 v μ = some (.inr μ) := by
  unfold lbX6_readSum_B_7 lbX6_readProduct_B_7 lbX6_readEither_B_7 lbX6_readBoth_B_7
  rw [h]
  by_cases c : (300 : Int32) ≤ v
  · rw [if_pos c, if_pos c, if_pos c, if_pos c]
    exact ⟨rfl, rfl, rfl, rfl⟩
  · rw [if_neg c, if_neg c, if_neg c, if_neg c, if_neg (show ¬ (53 : Int32) = 44 by decide), if_neg (show ¬ (53 : Int32) = 45 by decide), if_neg (show ¬ (53 : Int32) = 46 by decide), if_neg (show ¬ (53 : Int32) = 47 by decide), if_neg (show ¬ (53 : Int32) = 26 by decide), if_neg (show ¬ (53 : Int32) = 27 by decide)]
    exact ⟨rfl, rfl, rfl, rfl⟩
theorem fuel1 : go_fuel = 99999 + 1 := rfl
theorem rd_x (htx : 343 ≤ tx ∧ tx ≤ 364) : ∀ F k μ x, CX tx μ b n e → k ≤ 6 → pz_rk k ≤ F → ∃ μ', rdF tx F k μ x = some μ' ∧ CF tx μ μ' ∧ CX tx μ' b n e := by
  intro F
  induction F with
  | zero =>
    intro k μ x h hk hF
    exfalso
    unfold pz_rk at hF
    repeat' split at hF
    all_goals omega
  | succ F ih =>
    intro k μ x h hk hF
    match k, hk, hF with
    | 0, _, hF =>
      have hF : 3 ≤ F + 1 := hF
      obtain ⟨μ1, k1, k2, k3⟩ := ih 1 μ x h (by omega) (show 2 ≤ F by omega)
      refine ⟨μ1, ?_, k2, k3⟩
      show fX6_readSum_B tx μ (rdF tx F) x = _
      unfold fX6_readSum_B
      rw [k1, Option.bind_some, fuel1, lp_e (lb_x k3.1 _ _ _).1, Option.bind_some]
    | 1, _, hF =>
      have hF : 2 ≤ F + 1 := hF
      obtain ⟨μ1, k1, k2, k3⟩ := ih 2 μ x h (by omega) (show 1 ≤ F by omega)
      refine ⟨μ1, ?_, k2, k3⟩
      show fX6_readProduct_B tx μ (rdF tx F) x = _
      unfold fX6_readProduct_B
      rw [k1, Option.bind_some, fuel1, lp_e (lb_x k3.1 _ _ _).2.1, Option.bind_some]
    | 2, _, _ =>
      obtain ⟨μ1, k1, k2, k3⟩ := cx_ref htx h 1
      refine ⟨μ1, ?_, k2, k3⟩
      show fX6_readOne_B tx μ (rdF tx F) x = _
      unfold fX6_readOne_B jjX6_readOne_B_23
      rw [h.1, if_neg (show ¬ (53 : Int32) < 10 by decide), if_pos (show (18 : Int32) < 53 by decide), if_neg (show ¬ (53 : Int32) = 22 by decide), if_neg (show ¬ (53 : Int32) = 29 by decide), if_neg (show ¬ (53 : Int32) = 30 by decide), if_neg (show ¬ (53 : Int32) = 32 by decide), if_neg (show ¬ (53 : Int32) = 45 by decide), if_neg (show ¬ (53 : Int32) = 48 by decide), k1, Option.bind_some]
    | 3, _, hF =>
      have hF : 7 ≤ F + 1 := hF
      have hr : ∀ k μ, k = 0 ∨ k = 4 → CX tx μ b n e → ∃ μ', rdF tx F k μ x = some μ' ∧ CF tx μ μ' ∧ CX tx μ' b n e := by
        intro k μ hk hc
        rcases hk with rfl | rfl
        · exact ih 0 μ x hc (by omega) (show 3 ≤ F by omega)
        · exact ih 4 μ x hc (by omega) (show 6 ≤ F by omega)
      obtain ⟨μ1, k1, k2, k3⟩ := hr 4 μ (Or.inr rfl) h
      obtain ⟨μ2, l1, l2, l3⟩ := ch_6x htx hr k3
      refine ⟨μ2, ?_, k2.tr l2, l3⟩
      show fX6_readChoice_B tx μ (rdF tx F) x = _
      rw [ch_eq, k1, Option.bind_some, l1]
    | 4, _, hF =>
      have hF : 6 ≤ F + 1 := hF
      obtain ⟨μ1, k1, k2, k3⟩ := ih 5 μ x h (by omega) (show 5 ≤ F by omega)
      refine ⟨μ1, ?_, k2, k3⟩
      show fX6_readEither_B tx μ (rdF tx F) x = _
      unfold fX6_readEither_B
      rw [k1, Option.bind_some, fuel1, lp_e (lb_x k3.1 _ _ _).2.2.1, Option.bind_some]
    | 5, _, hF =>
      have hF : 5 ≤ F + 1 := hF
      obtain ⟨μ1, k1, k2, k3⟩ := ih 6 μ x h (by omega) (show 4 ≤ F by omega)
      refine ⟨μ1, ?_, k2, k3⟩
      show fX6_readBoth_B tx μ (rdF tx F) x = _
      unfold fX6_readBoth_B
      rw [k1, Option.bind_some, fuel1, lp_e (lb_x k3.1 _ _ _).2.2.2, Option.bind_some]
    | 6, _, hF =>
      have hF : 4 ≤ F + 1 := hF
      obtain ⟨μ1, k1, k2, k3⟩ := ih 0 μ x h (by omega) (show 3 ≤ F by omega)
      obtain ⟨μ2, l1, l2, l3⟩ := cx_ref htx k3 1
      refine ⟨μ2, ?_, k2.tr l2, l3⟩
      show fX6_readAsk_B tx μ (rdF tx F) x = _
      unfold fX6_readAsk_B jjX6_readAsk_B_58
      rw [h.1, if_neg (show ¬ (53 : Int32) = 28 by decide), k1, Option.bind_some, k3.1, if_neg (show ¬ (53 : Int32) < 40 by decide), if_neg (show ¬ (53 : Int32) ≤ 43 by decide), if_neg (show ¬ (53 : Int32) = 51 by decide), if_neg (show ¬ (53 : Int32) = 52 by decide), l1, Option.bind_some]
end CRX
/-- how a reader's answer stands -/
def RDR (tx : Nat) (μ : PM) (b : Nat → Nat) (n m p : Nat) (r : pz_R) (o : Option PM) : Prop := match r with
  | .inl e => ∃ μ', o = some μ' ∧ CF tx μ μ' ∧ CX tx μ' b n e
  | .inr x => ∃ μ', o = some μ' ∧ CF tx μ μ' ∧ CS tx μ' b n m x.1 (p + x.2.1.length) ∧ CW tx μ' p x.2.1 ∧ CB tx μ μ' p
def RDP (tx : Nat) (b : Nat → Nat) (n m lk N k : Nat) : Prop := ∀ d i p r F μ, pz_P (tk_t b n) (tk_v b n) lk N k d i p = some r → d ≤ 8 → pz_rk k + 7 * (8 - d) ≤ F → CS tx μ b n m i p → μ.1 372 7 = nI lk → p ≤ i → RDR tx μ b n m p r (rdF tx F k μ (nI d))
abbrev LBT : Type := Nat → (Nat → PM → Int32 → Option PM) → Int32 → Int32 → PM → Option ((Int32 × PM) ⊕ PM)
def RDL (tx : Nat) (b : Nat → Nat) (n m lk N k' k : Nat) (lb : LBT) : Prop := ∀ d i p r F fuel cnt μ, pz_P (tk_t b n) (tk_v b n) lk N k' d i p = some r → d ≤ 8 → pz_rk k + 7 * (8 - d) ≤ F → CS tx μ b n m i p → μ.1 372 7 = nI lk → p ≤ i → cnt ≤ i → 301 ≤ fuel + cnt → RDR tx μ b n m p r (lp (fun s => lb tx (rdF tx F) (nI d) s.1 s.2) fuel (nI cnt, μ))
def LBOK (tx : Nat) (b : Nat → Nat) (n m k : Nat) (g : Nat → Option Nat) (lb : LBT) : Prop := g 53 = none ∧
  (∀ rec a0 v μ, μ.1 372 6 = 53 → lb tx rec a0 v μ = some (.inr μ)) ∧
  (∀ rec a0 v μ i p, CS tx μ b n m i p → g (tk_t b n i) = none → lb tx rec a0 v μ = some (.inr μ)) ∧
  (∀ rec a0 cnt μ i p y, CS tx μ b n m i p → cnt < 300 → g (tk_t b n i) = some y → lb tx rec a0 (nI cnt) μ = (fX6_advance μ).bind fun q2 => (rec k q2 a0).bind fun q3 => (fX8_emit q3 tx (nI (tk_t b n i)) 0).bind fun q4 => some (.inl (nI cnt + 1, q4.2)))
section CRL
variable {b : Nat → Nat} {n m tx lk : Nat}
theorem rd_more {N k k' : Nat} {g : Nat → Option Nat} {lb : LBT} (htx : 343 ≤ tx ∧ tx ≤ 364) (h7 : k < 7) (hB : LBOK tx b n m k g lb) (hk : RDP tx b n m lk N k) (hk' : RDL tx b n m lk N k' k lb)
    {d i p : Nat} {r : pz_R} {F fuel cnt : Nat} {μ : PM} (hr : pz_more (tk_t b n) (pz_P (tk_t b n) (tk_v b n) lk N) g k k' d i p = some r) (hd : d ≤ 8) (hF : pz_rk k + 7 * (8 - d) ≤ F) (h : CS tx μ b n m i p) (hl : μ.1 372 7 = nI lk) (hp : p ≤ i) (hc : cnt ≤ i) (hf : 301 ≤ fuel + cnt) : RDR tx μ b n m p r (lp (fun s => lb tx (rdF tx F) (nI d) s.1 s.2) fuel (nI cnt, μ)) := by
  have hm := h.1.1
  have him := h.2.1
  obtain ⟨b0, b1, b2, b3⟩ := hB
  obtain ⟨f, rfl⟩ : ∃ f, fuel = f + 1 := ⟨fuel - 1, by omega⟩
  unfold pz_more at hr
  cases hg : g (tk_t b n i) with
  | none =>
    rw [hg] at hr
    cases hr
    exact ⟨μ, lp_e (b2 _ _ _ _ i p h hg), CF.rfl' tx μ, h, CW_nil tx μ p, CB.rfl' tx μ p⟩
  | some y =>
    rw [hg] at hr
    dsimp only at hr
    have n53 : tk_t b n i ≠ 53 := fun z => by rw [z, b0] at hg; cases hg
    have him2 := tkc_lt h.1 him n53
    obtain ⟨f', rfl⟩ : ∃ f', f = f' + 1 := ⟨f - 1, by omega⟩
    obtain ⟨μ1, a1, a2, a3, a4⟩ := cs_adv htx h n53
    have hl1 : μ1.1 372 7 = nI lk := (a2.2.1 7 (by omega) (by omega) (by omega) (by omega)).trans hl
    have st := b3 (rdF tx F) (nI d) cnt μ i p y h (by omega) hg
    rw [a1, Option.bind_some] at st
    rcases pz_bind_e hr with ⟨e, e1, rfl⟩ | ⟨j, c, q, e1, hr⟩
    · obtain ⟨μ2, c1, c2, c3⟩ := hk d (i + 1) p _ F μ1 e1 hd hF a3 hl1 (by omega)
      obtain ⟨z, μ3, d1, -, d2, d3⟩ := cx_emit htx c3 (nI (tk_t b n i)) 0
      rw [c1, Option.bind_some, d1, Option.bind_some] at st
      refine ⟨μ3, ?_, a2.tr (c2.tr d2), d3⟩
      rw [lp_l st, lp_e (b1 _ _ _ _ d3.1)]
    · have pl := pz_len _ _ _ _ _ _ _ _ e1
      obtain ⟨μ2, c1, c2, c3, c4, c5⟩ := hk d (i + 1) p _ F μ1 e1 hd hF a3 hl1 (by omega)
      have c3 : CS tx μ2 b n m j (p + c.length) := c3
      have c4 : CW tx μ2 p c := c4
      have hj := c3.2.1
      obtain ⟨μ3, d1, d2, d3, d4, d5⟩ := cs_emit (a := tk_t b n i) (v := 0) htx c3 (by omega)
      have d1 : fX8_emit μ2 tx (nI (tk_t b n i)) 0 = some (nI (p + c.length), μ3) := d1
      rw [c1, Option.bind_some, d1, Option.bind_some, add_l 1] at st
      have hl3 : μ3.1 372 7 = nI lk := (d2.2.1 7 (by omega) (by omega) (by omega) (by omega)).trans ((c2.2.1 7 (by omega) (by omega) (by omega) (by omega)).trans hl1)
      have cb1 : CB tx μ μ1 p := fun k _ => by rw [a4 (tx + 5) (by omega), a4 (tx + 6) (by omega)]; exact ⟨rfl, rfl⟩
      have cb3 : CB tx μ μ3 p := (cb1.tr c5 (Nat.le_refl _)).tr d5 (by omega)
      rcases pz_bind_e hr with ⟨e, e2, rfl⟩ | ⟨j', c', q', e2, hr⟩
      · obtain ⟨μ4, g1, g2, g3⟩ := hk' d j (p + c.length + 1) _ F (f' + 1) (cnt + 1) μ3 e2 hd hF d3 hl3 (by omega) (by omega) (by omega)
        exact ⟨μ4, by rw [lp_l st]; exact g1, a2.tr (c2.tr (d2.tr g2)), g3⟩
      · obtain ⟨μ4, g1, g2, g3, g4, g5⟩ := hk' d j (p + c.length + 1) _ F (f' + 1) (cnt + 1) μ3 e2 hd hF d3 hl3 (by omega) (by omega) (by omega)
        have g3 : CS tx μ4 b n m j' (p + c.length + 1 + c'.length) := g3
        have g4 : CW tx μ4 (p + c.length + 1) c' := g4
        cases hr
        refine ⟨μ4, by rw [lp_l st]; exact g1, a2.tr (c2.tr (d2.tr g2)), ?_, ?_, cb3.tr g5 (by omega)⟩
        · show CS tx μ4 b n m j' (p + (c ++ (tk_t b n i, 0) :: c').length)
          rw [List.length_append, List.length_cons, show p + (c.length + (c'.length + 1)) = p + c.length + 1 + c'.length by omega]
          exact g3
        · show CW tx μ4 p (c ++ ([(tk_t b n i, 0)] ++ c'))
          exact CW_app (CW_cb (CW_cb c4 d5 (Nat.le_refl _)) g5 (by omega)) (CW_app (CW_cb d4 g5 (Nat.le_refl _)) g4)
theorem rd_two {N k k' kp : Nat} {lb : LBT} (h7 : k < 7) (hx : ∀ rec a0 v μ, μ.1 372 6 = 53 → lb tx rec a0 v μ = some (.inr μ)) (hk : RDP tx b n m lk N k) (hk' : RDL tx b n m lk N k' k lb) (hrk : pz_rk k + 1 ≤ pz_rk kp) (hfn : ∀ F μ x, rdF tx (F + 1) kp μ x = (rdF tx F k μ x).bind fun q1 => ((lp (fun s => lb tx (rdF tx F) x s.1 s.2) go_fuel (0, q1)).bind fun ρ5 => some ρ5))
    {d i p : Nat} {r : pz_R} {F : Nat} {μ : PM} (hr : pz_two (pz_P (tk_t b n) (tk_v b n) lk N) k k' d i p = some r) (hd : d ≤ 8) (hF : pz_rk kp + 7 * (8 - d) ≤ F) (h : CS tx μ b n m i p) (hl : μ.1 372 7 = nI lk) (hp : p ≤ i) : RDR tx μ b n m p r (rdF tx F kp μ (nI d)) := by
  obtain ⟨F, rfl⟩ : ∃ f, F = f + 1 := ⟨F - 1, by omega⟩
  rw [hfn]
  unfold pz_two at hr
  rcases pz_bind_e hr with ⟨e, e1, rfl⟩ | ⟨j, c, q, e1, hr⟩
  · obtain ⟨μ2, c1, c2, c3⟩ := hk d i p _ F μ e1 hd (by omega) h hl hp
    exact ⟨μ2, by rw [c1, Option.bind_some, fuel1, lp_e (hx _ _ _ _ c3.1), Option.bind_some], c2, c3⟩
  · have pl := pz_len _ _ _ _ _ _ _ _ e1
    obtain ⟨μ2, c1, c2, c3, c4, c5⟩ := hk d i p _ F μ e1 hd (by omega) h hl hp
    have c3 : CS tx μ2 b n m j (p + c.length) := c3
    have c4 : CW tx μ2 p c := c4
    have hl2 : μ2.1 372 7 = nI lk := (c2.2.1 7 (by omega) (by omega) (by omega) (by omega)).trans hl
    rw [c1, Option.bind_some]
    have R := fun r' e2 => hk' d j (p + c.length) r' F go_fuel 0 μ2 e2 hd (by omega) c3 hl2 (by omega) (by omega) (by unfold go_fuel; omega)
    rcases pz_bind_e hr with ⟨e, e2, rfl⟩ | ⟨j', c', q', e2, hr⟩
    · obtain ⟨μ4, g1, g2, g3⟩ := R _ e2
      have g1 : lp (fun s => lb tx (rdF tx F) (nI d) s.1 s.2) go_fuel (0, μ2) = some μ4 := g1
      exact ⟨μ4, by rw [g1, Option.bind_some], c2.tr g2, g3⟩
    · obtain ⟨μ4, g1, g2, g3, g4, g5⟩ := R _ e2
      have g1 : lp (fun s => lb tx (rdF tx F) (nI d) s.1 s.2) go_fuel (0, μ2) = some μ4 := g1
      have g3 : CS tx μ4 b n m j' (p + c.length + c'.length) := g3
      have g4 : CW tx μ4 (p + c.length) c' := g4
      cases hr
      refine ⟨μ4, by rw [g1, Option.bind_some], c2.tr g2, ?_, CW_app (CW_cb c4 g5 (Nat.le_refl _)) g4, c5.tr g5 (by omega)⟩
      show CS tx μ4 b n m j' (p + (c ++ c').length)
      rw [List.length_append, ← Nat.add_assoc]
      exact g3
end CRL
