/-! ===== a clause of the class, whole ===== -/
def tz_p2 (t v : Nat → Nat) (w i : Nat) (r1 : (Nat × Nat) ⊕ Nat) : (Nat × Nat) ⊕ (Nat × Nat × Nat) := match r1 with
  | .inl e => .inl e
  | .inr x => if t (i + 1) = w then (match tz_fig t v 0 9 (i + 1 + 1) with
    | .inl e => .inl e
    | .inr y => .inr (i + 1 + 1 + 1, x, y)) else .inl (1, i + 1)
theorem tz_p2_eq (t v : Nat → Nat) (lo hi w i : Nat) : tz_pair t v lo hi w i = tz_p2 t v w i (tz_fig t v lo hi i) := rfl
def tz_p1 (i : Nat) (r1 : (Nat × Nat) ⊕ Nat) : (Nat × Nat) ⊕ (Nat × Nat × Nat) := match r1 with
  | .inl e => .inl e
  | .inr x => .inr (i + 1, x, 0)
theorem tz_p1_eq (t v : Nat → Nat) (lo hi i : Nat) : tz_one t v lo hi i = tz_p1 i (tz_fig t v lo hi i) := rfl
def tz_fin (t : Nat → Nat) (s : Nat) (r : (Nat × Nat) ⊕ (Nat × Nat × Nat)) : (Nat × Nat) ⊕ tz_A := match r with
  | .inl e => .inl e
  | .inr x => tz_end t x.1 (x.1 + 1, s, x.2.1, x.2.2, [], [])
section CC9
variable {b : Nat → Nat} {n m tx : Nat}
theorem cc_p1 {μ μ1 : PM} {i N p s : Nat} {r1 : (Nat × Nat) ⊕ Nat} {o : Option (Int32 × PM)} (htx : 343 ≤ tx ∧ tx ≤ 364) (hc : ∀ c, c ≠ 372 → μ1.1 c = μ.1 c) (h2 : μ1.2 = μ.2) (hN : μ.1 tx 6 = nI N) (hN24 : N < 24) (h3 : 3 ≤ s) (h : TKR tx μ1 b n m i p r1 o) : CCR tx μ b n m N p (tz_fin (tk_t b n) s (tz_p1 i r1)) (o.bind fun q11 => jjX6_readClause_197 tx q11.2 (nI s) q11.1 0) := by
  have G1 : CG tx μ μ1 := ⟨fun c k1 _ => hc c k1, h2⟩
  have hN1 : μ1.1 tx 6 = nI N := by rw [hc tx (by omega)]; exact hN
  cases r1 with
  | inl e =>
    obtain ⟨v, μ2, k1, k2, k3⟩ := h
    obtain ⟨μ3, t1, t2, t3⟩ := cx_tail htx k3 ((k2.2.2.1 6 (by omega)).trans hN1) hN24 (nI s) v 0
    exact ⟨μ3, by rw [k1, Option.bind_some]; exact t1, G1.tr (k2.cg.tr t2), t3⟩
  | inr x =>
    obtain ⟨k0, μ2, k1, k2, k3, k4⟩ := h
    rw [k1, Option.bind_some]
    exact cc_end (y := 0) htx k3 (fun c hc2 => (k4 c hc2).trans (hc c hc2)) (k2.2.2.2.trans h2) hN hN24 h3
theorem cc_p2 {μ μ1 : PM} {i N p s w : Nat} {r1 : (Nat × Nat) ⊕ Nat} {o : Option (Int32 × PM)} (htx : 343 ≤ tx ∧ tx ≤ 364) (hc : ∀ c, c ≠ 372 → μ1.1 c = μ.1 c) (h2 : μ1.2 = μ.2) (hN : μ.1 tx 6 = nI N) (hN24 : N < 24) (h3 : 3 ≤ s) (hw : w < 31) (h : TKR tx μ1 b n m i p r1 o) : CCR tx μ b n m N p (tz_fin (tk_t b n) s (tz_p2 (tk_t b n) (tk_v b n) w i r1)) (o.bind fun q11 => (fX6_expect q11.2 (OfNat.ofNat w : Int32)).bind fun q12 => (fX6_takeWithin q12 0 9).bind fun q13 => jjX6_readClause_197 tx q13.2 (nI s) q11.1 q13.1) := by
  have G1 : CG tx μ μ1 := ⟨fun c k1 _ => hc c k1, h2⟩
  have hN1 : μ1.1 tx 6 = nI N := by rw [hc tx (by omega)]; exact hN
  have w53 : ¬ (OfNat.ofNat w : Int32) = 53 := fun z => by
    have := (eq_l (n := 53) (k := w) (by omega) (by omega)).mp z
    omega
  have fx : ∀ {e : Nat × Nat} {μ2 : PM} (v : Int32), CF tx μ1 μ2 → CX tx μ2 b n e → ∃ μ', ((fX6_takeWithin μ2 0 9).bind fun q13 => jjX6_readClause_197 tx q13.2 (nI s) v q13.1) = some μ' ∧ CG tx μ μ' ∧ CX tx μ' b n e := fun {e μ2} v hF hX => by
    obtain ⟨v', μ3, k1, k2, k3⟩ := cx_take htx hX 0 9
    obtain ⟨μ4, t1, t2, t3⟩ := cx_tail htx k3 ((k2.2.2.1 6 (by omega)).trans ((hF.2.2.1 6 (by omega)).trans hN1)) hN24 (nI s) v v'
    exact ⟨μ4, by rw [k1, Option.bind_some]; exact t1, G1.tr (hF.cg.tr (k2.cg.tr t2)), t3⟩
  cases r1 with
  | inl e =>
    obtain ⟨v, μ2, k1, k2, k3⟩ := h
    obtain ⟨μ3, x1, x2, x3⟩ := cx_exp (a := (OfNat.ofNat w : Int32)) htx k3 w53
    obtain ⟨μ4, y1, y2, y3⟩ := fx v (k2.tr x2) x3
    refine ⟨μ4, ?_, y2, y3⟩
    rw [k1, Option.bind_some]
    dsimp only
    rw [x1, Option.bind_some]
    exact y1
  | inr x =>
    obtain ⟨k0, μ2, k1, k2, k3, k4⟩ := h
    rw [k1, Option.bind_some]
    dsimp only
    unfold tz_p2
    dsimp only
    rcases cs_exp (x := w) htx k3 (by omega) (by omega) with ⟨x0, μ3, x1, x2, x3, x4⟩ | ⟨x0, μ3, x1, x2, x3⟩
    · rw [if_pos x0, x1, Option.bind_some]
      have K := tkr_take (lo := 0) (hi := 9) htx x3 (by omega) (by omega)
      generalize tz_fig (tk_t b n) (tk_v b n) 0 9 (i + 1 + 1) = r2 at K ⊢
      cases r2 with
      | inl e =>
        obtain ⟨v, μ4, l1, l2, l3⟩ := K
        have l1 : fX6_takeWithin μ3 0 9 = some (v, μ4) := l1
        obtain ⟨μ5, t1, t2, t3⟩ := cx_tail htx l3 ((l2.2.2.1 6 (by omega)).trans ((x2.2.2.1 6 (by omega)).trans ((k2.2.2.1 6 (by omega)).trans hN1))) hN24 (nI s) (nI x) v
        exact ⟨μ5, by rw [l1, Option.bind_some]; exact t1, G1.tr (k2.cg.tr (x2.cg.tr (l2.cg.tr t2))), t3⟩
      | inr y =>
        obtain ⟨l0, μ4, l1, l2, l3, l4⟩ := K
        have l1 : fX6_takeWithin μ3 0 9 = some (nI y, μ4) := l1
        rw [l1, Option.bind_some]
        exact cc_end htx l3 (fun c hc2 => (l4 c hc2).trans ((x4 c hc2).trans ((k4 c hc2).trans (hc c hc2)))) (l2.2.2.2.trans (x2.2.2.2.trans (k2.2.2.2.trans h2))) hN hN24 h3
    · rw [if_neg x0, x1, Option.bind_some]
      exact fx (nI x) (k2.tr x2) x3
theorem cc_law {μ μ1 : PM} {i N p s M : Nat} {r : (Nat × Nat) ⊕ tz_A} (htx : 343 ≤ tx ∧ tx ≤ 364) (h : CS tx μ1 b n m (i + 1) p) (hc : ∀ c, c ≠ 372 → μ1.1 c = μ.1 c) (h2 : μ1.2 = μ.2) (hN : μ.1 tx 6 = nI N) (hN24 : N < 24) (h3 : s < 3) (hp : p ≤ i)
    (hr : (match pz_P (tk_t b n) (tk_v b n) (lk_of s) M 0 0 (i + 1) p with
      | none => none
      | some (.inl e) => some (.inl e)
      | some (.inr x) => some (tz_end (tk_t b n) x.1 (x.1 + 1, s, 0, 0, x.2.1, x.2.2))) = some r) : CCR tx μ b n m N p r (jjX6_readClause_101 tx μ1 (nI s) 0 0 (nI (lk_of s))) := by
  have lkb : lk_of s < 64 := by unfold lk_of; split; omega; split <;> omega
  have hm := h.1.1
  unfold jjX6_readClause_101
  simp only [go_let]
  have e7 : (pm_wi μ1 372 7 (nI (lk_of s))).1 tx 7 = nI p := by rw [wi_c (by omega)]; exact h.2.2.2.2.2.2
  rw [chk_n (show s < 3 by omega) (by omega), cl_n (show s < 2147483648 by omega), e7]
  have G5 : CG tx μ (pm_wi (pm_wi μ1 372 7 (nI (lk_of s))) (tx + 4) s (nI p)) := ((CG.tr ⟨fun c k1 _ => hc c k1, h2⟩ (CG.rfl' tx μ1)).wi (by omega)).wi (by omega)
  have S5 : CS tx (pm_wi (pm_wi μ1 372 7 (nI (lk_of s))) (tx + 4) s (nI p)) b n m (i + 1) p := by
    obtain ⟨k1, k2, k3, k4, k5, k6, k7⟩ := h
    refine ⟨TKC_cg (tx := tx) k1 (((CG.rfl' tx μ1).wi (by omega)).wi (by omega)) htx, k2, k3, ?_, ?_, ?_, ?_⟩
    · rw [wi_c (by omega), wi_i (by omega)]; exact k4
    · rw [wi_c (by omega), wi_i (by omega)]; exact k5
    · exact ⟨by rw [wi_c (by omega), wi_i (by omega)]; exact k6.1, by rw [wi_c (by omega), wi_i (by omega)]; exact k6.2⟩
    · rw [wi_c (by omega), wi_c (by omega)]; exact k7
  have l5 : (pm_wi (pm_wi μ1 372 7 (nI (lk_of s))) (tx + 4) s (nI p)).1 372 7 = nI (lk_of s) := by rw [wi_c (by omega), wi_e]
  have c5 : ∀ c, c ≠ 372 → c ≠ tx + 4 → (pm_wi (pm_wi μ1 372 7 (nI (lk_of s))) (tx + 4) s (nI p)).1 c = μ.1 c := fun c k1 k2 => by rw [wi_c k2, wi_c k1]; exact hc c k1
  have a5 : (pm_wi (pm_wi μ1 372 7 (nI (lk_of s))) (tx + 4) s (nI p)).1 (tx + 4) s = nI p := wi_e
  have b5 : ∀ s', s' ≠ s → (pm_wi (pm_wi μ1 372 7 (nI (lk_of s))) (tx + 4) s (nI p)).1 (tx + 4) s' = μ.1 (tx + 4) s' := fun s' hs => by rw [wi_i hs, wi_c (by omega), hc _ (by omega)]
  generalize pm_wi (pm_wi μ1 372 7 (nI (lk_of s))) (tx + 4) s (nI p) = μ5 at G5 S5 l5 c5 a5 b5 ⊢
  have hN5 : μ5.1 tx 6 = nI N := by rw [c5 tx (by omega) (by omega)]; exact hN
  cases hP : pz_P (tk_t b n) (tk_v b n) (lk_of s) M 0 0 (i + 1) p with
  | none => rw [hP] at hr; cases hr
  | some r' =>
    have R := cr_sum htx lkb hP S5 l5 (by omega)
    rw [hP] at hr
    cases r' with
    | inl e =>
      cases hr
      obtain ⟨μ7, k1, k2, k3⟩ := R
      obtain ⟨z, μ8, d1, -, d2, d3⟩ := cx_emit htx k3 53 0
      obtain ⟨μ9, t1, t2, t3⟩ := cx_tail htx d3 ((d2.2.2.1 6 (by omega)).trans ((k2.2.2.1 6 (by omega)).trans hN5)) hN24 (nI s) 0 0
      refine ⟨μ9, ?_, G5.tr (k2.cg.tr (d2.cg.tr t2)), t3⟩
      rw [k1, Option.bind_some, d1, Option.bind_some]
      exact t1
    | inr x =>
      obtain ⟨j, c, q⟩ := x
      have hr : some (tz_end (tk_t b n) j (j + 1, s, 0, 0, c, q)) = some r := hr
      have hr := Option.some.inj hr
      have pl := pz_len _ _ _ _ _ _ _ _ hP
      obtain ⟨μ7, k1, k2, k3, k4, k5⟩ := R
      have k3 : CS tx μ7 b n m j (p + c.length) := k3
      have k4 : CW tx μ7 p c := k4
      have hj := k3.2.1
      obtain ⟨μ8, d1, d2, d3, d4, d5⟩ := cs_emit (a := 53) (v := 0) htx k3 (by omega)
      have d1 : fX8_emit μ7 tx 53 0 = some (nI (p + c.length), μ8) := d1
      have hN8 : μ8.1 tx 6 = nI N := (d2.2.2.1 6 (by omega)).trans ((k2.2.2.1 6 (by omega)).trans hN5)
      have F8 : CF tx μ5 μ8 := k2.tr d2
      rw [k1, Option.bind_some, d1, Option.bind_some]
      dsimp only
      unfold tz_end at hr
      rcases cs_tail htx d3 hN8 hN24 (nI s) 0 0 with ⟨t0, μ9, t1, t2, t3, t4, t5, t6, t7, t8, t9, t10, t11⟩ | ⟨t0, μ9, t1, t2, t3⟩
      · rw [if_pos t0] at hr
        subst hr
        refine ⟨μ9, p + c.length + 1, t1, G5.tr (F8.cg.tr t2), t3, t4, t5, t6, t7, fun k hk => ?_, fun k hk => ?_, fun z => ?_, fun _ => ⟨rfl, fun k hk => ?_, ?_, ?_, fun s' hs => ?_⟩⟩
        · obtain ⟨w1, w2, w3⟩ := t8 k hk
          rw [F8.1 (tx + 1) (by omega) (by omega) (by omega) (by omega), c5 _ (by omega) (by omega)] at w1
          rw [F8.1 (tx + 2) (by omega) (by omega) (by omega) (by omega), c5 _ (by omega) (by omega)] at w2
          rw [F8.1 (tx + 3) (by omega) (by omega) (by omega) (by omega), c5 _ (by omega) (by omega)] at w3
          exact ⟨w1, w2, w3⟩
        · rw [t10, t11, ← c5 (tx + 5) (by omega) (by omega), ← c5 (tx + 6) (by omega) (by omega)]
          exact k5.tr d5 (by omega) k hk
        · have z : 3 ≤ s := z
          omega
        · rw [t10, t11]
          exact CW_cb k4 d5 (Nat.le_refl _) k hk
        · rw [t10]
          exact (d4 0 (by decide)).1
        · rw [t9, F8.1 (tx + 4) (by omega) (by omega) (by omega) (by omega)]
          exact a5
        · rw [t9, F8.1 (tx + 4) (by omega) (by omega) (by omega) (by omega)]
          exact b5 s' hs
      · rw [if_neg t0] at hr
        subst hr
        exact ⟨μ9, t1, G5.tr (F8.cg.tr t2), t3⟩
theorem CCR_ref {μ : PM} {i p N e : Nat} (htx : 343 ≤ tx ∧ tx ≤ 364) (h : CS tx μ b n m i p) (he : e ≠ 0) (he7 : e ≤ 7) : CCR tx μ b n m N p (.inl (e, i)) ((fX6_refuse μ (nI e)).bind fun q => some (q)) := by
  obtain ⟨μ1, k1, k2, k3, -⟩ := cs_ref htx h he he7
  exact ⟨μ1, by rw [k1, Option.bind_some], k2.cg, k3⟩
theorem q_clauseC {μ : PM} {i N B M p : Nat} {r : (Nat × Nat) ⊕ tz_A} (htx : 343 ≤ tx ∧ tx ≤ 364) (h : CS tx μ b n m i p) (hp : p ≤ i) (h53 : tk_t b n i ≠ 53) (hN : μ.1 tx 6 = nI N) (hN24 : N ≤ 24) (hB : ∀ s, s < 3 → (μ.1 (tx + 4) s = -1 ↔ B.testBit s = false)) (hr : tz_cl (tk_t b n) (tk_v b n) M N B i p = some r) : CCR tx μ b n m N p r (fX6_readClause tx μ) := by
  have t54 := tk_t_le b n i
  have e6 := h.2.2.2.2.1
  unfold fX6_readClause
  unfold tz_cl at hr
  rw [e6, if_neg (nI_pos (show tk_t b n i < 2147483648 by omega))]
  have l10 : nI (tk_t b n i) ≤ 10 ↔ tk_t b n i ≤ 10 := le_l (n := 10) (by omega) (by omega)
  by_cases c11 : 11 ≤ tk_t b n i
  · rw [if_pos c11] at hr
    cases hr
    rw [if_neg (fun z => by have := l10.mp z; omega)]
    exact CCR_ref (e := 1) htx h (by decide) (by decide)
  rw [if_neg c11] at hr
  rw [if_pos (l10.mpr (by omega))]
  obtain ⟨μ1, a1, a2, a3, a4⟩ := cs_adv htx h h53
  generalize tk_t b n i = s at hr c11 e6 ⊢
  have hl : fX8_hasLaw μ tx (nI s) = some (if s < 3 ∧ B.testBit s = true then 1 else 0) := by
    unfold fX8_hasLaw
    rw [if_neg (nI_pos (show s < 2147483648 by omega))]
    have l3 : (3 : Int32) ≤ nI s ↔ 3 ≤ s := l_le (n := 3) (by omega) (by omega)
    by_cases c3 : s < 3
    · rw [if_neg (fun z => by have := l3.mp z; omega), chk_n c3 (by omega), cl_n (show s < 2147483648 by omega)]
      by_cases cb : B.testBit s = true
      · rw [if_neg (fun z => by rw [(hB s c3).mp z] at cb; cases cb), if_pos ⟨c3, cb⟩]
      · rw [if_pos ((hB s c3).mpr (Bool.eq_false_iff.mpr cb)), if_neg (fun z => cb z.2)]
    · rw [if_pos (l3.mpr (by omega)), if_neg (fun z => c3 z.1)]
  rw [hl, Option.bind_some, q_ite]
  by_cases cb : s < 3 ∧ B.testBit s = true
  · rw [if_pos cb] at hr
    cases hr
    rw [if_pos cb]
    exact CCR_ref (e := 4) htx h (by decide) (by decide)
  rw [if_neg cb] at hr
  rw [if_neg cb, hN]
  have l24 : nI N < 24 ↔ N < 24 := lt_l (n := 24) (by omega) (by omega)
  by_cases c24 : N = 24
  · rw [if_pos c24] at hr
    cases hr
    rw [if_neg (fun z => by have := l24.mp z; omega)]
    exact CCR_ref (e := 6) htx h (by decide) (by decide)
  rw [if_neg c24] at hr
  have hN2 : N < 24 := by omega
  rw [if_pos (l24.mpr hN2), a1, Option.bind_some]
  have ne : ∀ j : Nat, j < 64 → s ≠ j → ¬ nI s = (OfNat.ofNat j : Int32) := fun j hj q z => q ((eq_l (n := j) (by omega) (by omega)).mp z)
  by_cases c3 : s < 3
  · rw [if_pos c3] at hr
    have L := cc_law htx a3 a4 a2.2.2.2 hN hN2 c3 hp hr
    unfold jjX6_readClause_79
    by_cases s0 : s = 0
    · subst s0
      rw [if_pos (show nI 0 = 0 from rfl), if_pos (show nI 0 = 0 from rfl)]
      exact L
    rw [if_neg (ne 0 (by omega) s0), if_neg (ne 0 (by omega) s0)]
    by_cases s1 : s = 1
    · subst s1
      rw [if_pos (show nI 1 = 1 from rfl), if_pos (show nI 1 = 1 from rfl)]
      exact L
    have s2 : s = 2 := by omega
    subst s2
    rw [if_neg (ne 1 (by omega) s1), if_pos (show nI 2 = 2 from rfl)]
    exact L
  rw [if_neg c3] at hr
  have hr : some (tz_fin (tk_t b n) s (tz_body (tk_t b n) (tk_v b n) s (i + 1))) = some r := by
    rw [← hr]
    unfold tz_fin
    generalize tz_body (tk_t b n) (tk_v b n) s (i + 1) = q
    cases q <;> rfl
  have hr := Option.some.inj hr
  subst hr
  have h3 : 3 ≤ s := by omega
  rw [if_neg (ne 0 (by omega) (by omega)), if_neg (ne 1 (by omega) (by omega)), if_neg (ne 2 (by omega) (by omega))]
  by_cases c_3 : s = 3
  · subst c_3
    rw [if_pos (show nI 3 = 3 from rfl)]
    have e : tz_body (tk_t b n) (tk_v b n) 3 (i + 1) = tz_p2 (tk_t b n) (tk_v b n) 19 (i + 1) (tz_sd (tk_t b n) (tk_v b n) (i + 1)) := by
      unfold tz_body tz_sd
      rw [if_pos rfl]
      by_cases q : (tk_t b n (i + 1) = 32 ∧ 1 ≤ tk_v b n (i + 1) ∧ tk_v b n (i + 1) ≤ 9999) ∧ tz_snd (tk_v b n (i + 1)) = false
      · rw [if_pos q, if_pos q]
        rfl
      · rw [if_neg q, if_neg q]
        rfl
    rw [e]
    exact cc_p2 (w := 19) htx a4 a2.2.2.2 hN hN2 h3 (by omega) (tkr_sounds htx a3)
  rw [if_neg (ne 3 (by omega) c_3)]
  have tf : ∀ lo hi : Nat, hi ≤ 9999 → lo ≤ 9999 → TKR tx μ1 b n m (i + 1) p (tz_fig (tk_t b n) (tk_v b n) lo hi (i + 1)) ((fX6_takeWithin μ1 (nI lo) (nI hi)).bind fun q => some ((q.1, q.2))) := fun lo hi k1 k2 => tkr_id (tkr_take htx a3 k1 k2)
  unfold fX6_takeFirst tz_body
  rw [if_neg c_3]
  by_cases c_4 : s = 4
  · subst c_4
    rw [if_pos (show nI 4 = 4 from rfl), if_pos rfl, tz_p2_eq]
    simp only [if_pos (show nI 4 = 4 from rfl)]
    exact cc_p2 (w := 20) htx a4 a2.2.2.2 hN hN2 h3 (by omega) (tf 1 9 (by omega) (by omega))
  simp only [if_neg (ne 4 (by omega) c_4), if_neg c_4]
  by_cases c_5 : s = 5
  · subst c_5
    rw [if_pos (show (5 : Nat) = 5 from rfl), tz_p1_eq]
    simp only [if_pos (show nI 5 = 5 from rfl), if_neg (show ¬ nI 5 = 8 by decide)]
    exact cc_p1 htx a4 a2.2.2.2 hN hN2 h3 (tf 0 5 (by omega) (by omega))
  simp only [if_neg (ne 5 (by omega) c_5), if_neg c_5]
  by_cases c_6 : s = 6
  · subst c_6
    rw [if_pos (show (6 : Nat) = 6 from rfl), tz_p1_eq]
    simp only [if_pos (show nI 6 = 6 from rfl), if_neg (show ¬ nI 6 = 8 by decide)]
    exact cc_p1 htx a4 a2.2.2.2 hN hN2 h3 (tf 0 9 (by omega) (by omega))
  simp only [if_neg (ne 6 (by omega) c_6), if_neg c_6]
  by_cases c_7 : s = 7
  · subst c_7
    rw [if_pos (show (7 : Nat) = 7 from rfl), tz_p1_eq]
    simp only [if_pos (show nI 7 = 7 from rfl), if_neg (show ¬ nI 7 = 8 by decide)]
    exact cc_p1 htx a4 a2.2.2.2 hN hN2 h3 (tf 0 9 (by omega) (by omega))
  simp only [if_neg (ne 7 (by omega) c_7), if_neg c_7]
  by_cases c_8 : s = 8
  · subst c_8
    rw [if_pos (show (8 : Nat) = 8 from rfl), tz_p2_eq]
    simp only [if_pos (show nI 8 = 8 from rfl)]
    exact cc_p2 (w := 20) htx a4 a2.2.2.2 hN hN2 h3 (by omega) (tf 0 4 (by omega) (by omega))
  simp only [if_neg (ne 8 (by omega) c_8), if_neg c_8]
  by_cases c_9 : s = 9
  · subst c_9
    rw [if_pos (show (9 : Nat) = 9 from rfl), tz_p1_eq]
    simp only [if_pos (show nI 9 = 9 from rfl)]
    exact cc_p1 htx a4 a2.2.2.2 hN hN2 h3 (tf 0 5 (by omega) (by omega))
  simp only [if_neg (ne 9 (by omega) c_9), if_neg c_9]
  have c_10 : s = 10 := by omega
  subst c_10
  rw [tz_p1_eq]
  simp only [if_pos (show nI 10 = 10 from rfl)]
  exact cc_p1 htx a4 a2.2.2.2 hN hN2 h3 (tf 1 60 (by omega) (by omega))
end CC9
