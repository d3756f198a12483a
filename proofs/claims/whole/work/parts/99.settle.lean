/-! ===== a way that is settled, by FAMILIES or by NAMES ===== -/
theorem q_fill {μ : PM} {c n : Nat} {v : Int32} (hn : n ≤ 1000) : ∃ μ', fJ7_fill_53178 μ c n v = some μ' ∧ (∀ j, j < n → μ'.1 c j = v) ∧ (∀ c', c' ≠ c → μ'.1 c' = μ.1 c') ∧ μ'.2 = μ.2 := by
  obtain ⟨r, h1, h2⟩ := lp_inv (f := fun s : Int32 × PM => lbJ7_fill_53178_5 c n v (nI n) s.1 s.2) (fun s => ∃ i : Nat, i ≤ n ∧ s.1 = nI i ∧ (∀ j, j < i → s.2.1 c j = v) ∧ (∀ c', c' ≠ c → s.2.1 c' = μ.1 c') ∧ s.2.2 = μ.2) (fun s => n - s.1.toNatClampNeg) (fun r => (∀ j, j < n → r.1 c j = v) ∧ (∀ c', c' ≠ c → r.1 c' = μ.1 c') ∧ r.2 = μ.2) (fun s hI => by
    obtain ⟨s1, s2⟩ := s
    obtain ⟨i, hi, e, g1, g2, g3⟩ := hI
    have e : s1 = nI i := e
    have g1 : ∀ j, j < i → s2.1 c j = v := g1
    have g2 : ∀ c', c' ≠ c → s2.1 c' = μ.1 c' := g2
    subst e
    dsimp only
    unfold lbJ7_fill_53178_5
    have hle : nI n ≤ nI i ↔ n ≤ i := le_n (by omega) (by omega)
    by_cases h6 : n ≤ i
    · right
      rw [if_pos (hle.mpr h6)]
      exact ⟨_, rfl, fun j hj => g1 j (by omega), g2, g3⟩
    · left
      simp only [go_let]
      rw [if_neg (fun q => h6 (hle.mp q)), chk_n (by omega) (by omega), cl_n (by omega), add_l 1]
      refine ⟨_, rfl, ⟨i + 1, by omega, rfl, fun j hj => ?_, fun c' hc => ?_, g3⟩, ?_⟩
      · show (pm_wi s2 c i v).1 c j = v
        by_cases e : j = i
        · rw [e, wi_e]
        · rw [wi_i e]; exact g1 j (by omega)
      · show (pm_wi s2 c i v).1 c' = _
        rw [wi_c hc]; exact g2 c' hc
      · show n - (nI (i + 1)).toNatClampNeg < n - i
        rw [cl_n (by omega)]
        omega) go_fuel (0, μ) ⟨0, by omega, rfl, fun j hj => by omega, fun _ _ => rfl, rfl⟩ (by show n - _ < go_fuel; unfold go_fuel; omega)
  refine ⟨r, ?_, h2⟩
  unfold fJ7_fill_53178
  simp only [go_let]
  have h1 : lp (fun s : Int32 × PM => lbJ7_fill_53178_5 c n v (Int32.ofNat n) s.1 s.2) go_fuel (0, μ) = some r := h1
  rw [h1]
  rfl
def GB (μ0 μ : PM) : Prop := (∀ c, c < 388 ∨ 390 < c → μ.1 c = μ0.1 c) ∧ μ.2 = μ0.2
theorem GB.vf {μ0 μ : PM} {a : Nat → Int32} (h : GB μ0 μ) (hV : VF μ0 1 a) : VF μ 1 a := VF_eq hV (fun k hk => by
  have := (vz_loc_le k hk).1
  rw [h.1 _ (by omega)])
theorem enc_n1 {n : Nat} (h : n < 100) : ¬ enc (some n) = -1 := fun q => (neg1_ne (show n < 2147483648 by omega)).mp q
theorem bit_up {m b : Nat} : ∀ y, (m ||| 2 ^ b).testBit y = (m.testBit y || decide (y = b)) := by
  intro y
  rw [Nat.testBit_or, Nat.testBit_two_pow]
  congr 1
  exact decide_eq_decide.mpr ⟨fun q => q.symm, fun q => q.symm⟩
def RelF (μ0 : PM) (μ : PM) (has had : Nat → Option Nat) (ak : Nat → Nat → Bool) : Prop := GB μ0 μ ∧ (∀ a, a < 5 → μ.1 388 a = enc (has a)) ∧ (∀ b, b < 6 → μ.1 389 b = enc (had b)) ∧ ∀ a, a < 5 → ∃ m, m < 64 ∧ μ.1 390 a = nI m ∧ ∀ b, b < 6 → m.testBit b = ak a b
theorem st_stepF {μ0 : PM} {a : Nat → Int32} {F N : Nat} {v2 v5 : Int32} (hV : VF μ0 1 a) (eF : a 1 = nI F) (hF : F ≤ 5) (eN : a 0 = nI N) (hN : N ≤ 6) : gs_step F N (fun x y => 0 < wz a x y) (wz a) (fz a) (fun s : Int32 × Int32 × PM => lbX4_settle_110_d 1 v2 v5 s.1 s.2.1 s.2.2) (RelF μ0) := by
  intro μ has had ak x T hR hI hx hnone hT
  obtain ⟨hB, hA1, hB1, hK⟩ := hR
  have hV2 := hB.vf hV
  obtain ⟨m, m1, m2, m3⟩ := hK x (by omega)
  obtain ⟨o, b1, b2, b3⟩ := q_best (μ := μ) (th := 1) (v3 := jmin (μ.1 12 5) 6) (a := x) (nb := N) (m := m) (acc := fun y => decide (0 < wz a x y)) (va := wz a) (ak := ak x) (by omega) (by omega) (Or.inr rfl) (by rw [v1_names hV2, eN]; exact jm_6 hN)
    (fun y hy => by
      rw [if_neg (by decide)]
      exact q_wanted hV2 (by omega) (by omega))
    (fun y o hy ho => q_like1 hV2 (by omega) (by omega) (fun z hz => by have := ho z hz; omega)) m2 m1 (fun y hy => m3 y (by omega))
  have hbest : fX4_bestToAsk μ 1 (nI x) = some (enc o) := by
    unfold fX4_bestToAsk
    rw [if_neg (by decide)]
    exact b1
  have t30 : ¬ (30 : Int32) < nI T := by rw [l_lt (n := 30) (by omega) (by omega)]; omega
  dsimp only
  unfold lbX4_settle_110_d
  rw [if_neg t30, if_neg (fun q => (neg1_ne (show x < 2147483648 by omega)).mp q), hbest, Option.bind_some]
  cases o with
  | none =>
    left
    rw [if_pos (show enc none = -1 from rfl)]
    exact ⟨rfl, fun y hy hacc => b3 rfl y hy (decide_eq_true hacc)⟩
  | some y =>
    right
    obtain ⟨c1, c2, c3, c4⟩ := b2 y rfl
    have c2 := of_decide_eq_true c2
    simp only [go_let]
    rw [if_neg (enc_n1 (by omega)), show enc (some y) = nI y from rfl, chk_n (show x < 6 by omega) (by omega), chk_n (show x < 6 by omega) (by omega), chk_n (show y < 6 by omega) (by omega), cl_n (show x < 2147483648 by omega), cl_n (show y < 2147483648 by omega), m2, nb_set (show y < 31 by omega), wi_c (show 389 ≠ 390 by omega), hB1 y (by omega)]
    have hB2 : GB μ0 (pm_wi μ 390 x (nI (m ||| 2 ^ y))) := ⟨fun c hc => by rw [wi_c (by omega)]; exact hB.1 c hc, hB.2⟩
    have hV3 := hB2.vf hV
    have hhb : ∀ z, had y = some z → z < F := fun z hz => (hI.1 z y ((hI.2.1 z y).mpr hz)).1
    have hK2 : ∀ z, z < 5 → ∃ m', m' < 64 ∧ (pm_wi μ 390 x (nI (m ||| 2 ^ y))).1 390 z = nI m' ∧ ∀ b, b < 6 → m'.testBit b = ak_up ak x y z b := fun z hz => by
      by_cases e : z = x
      · subst e
        refine ⟨m ||| 2 ^ y, nb_or_lt (m := 6) m1 (by omega), wi_e, fun b hb => ?_⟩
        rw [bit_up, m3 b hb]
        unfold ak_up
        simp
      · obtain ⟨m', k1, k2, k3⟩ := hK z hz
        refine ⟨m', k1, by rw [wi_i e]; exact k2, fun b hb => ?_⟩
        rw [k3 b hb]
        unfold ak_up
        have : decide (z = x) = false := decide_eq_false e
        rw [this, Bool.false_and, Bool.or_false]
    rw [if_neg (by decide)]
    unfold jjX4_settle_172_110_d jjX4_settle_208_110_d
    simp only [go_let]
    rw [q_like0 hV3 (by omega) (by omega) (fun z hz => by have := hhb z hz; omega), Option.bind_some, nb_01, add_l 1]
    refine ⟨y, c1, c2, c3, fun y' hy' hacc hn => c4 y' hy' (decide_eq_true hacc) (by unfold ak_p at hn; simpa using hn), ?_⟩
    by_cases hg : gs_o (fz a) y x (had y) = true
    case neg =>
      left
      rw [if_neg hg]
      cases hh : had y with
      | none => rw [hh] at hg; exact absurd rfl hg
      | some z =>
        rw [hh] at hg
        refine ⟨z, _, rfl, fun q => hg (gs_b_iff.mpr q), rfl, hB2, fun b hb => ?_, fun b hb => ?_, hK2⟩
        · rw [wi_c (by omega)]; exact hA1 b hb
        · rw [wi_c (by omega)]; exact hB1 b hb
    right
    refine ⟨fun z hz => by rw [hz] at hg; exact gs_b_iff.mp hg, ?_⟩
    rw [if_pos hg, chk_n (show x < 5 by omega) (by omega), chk_n (show y < 6 by omega) (by omega), cl_n (show x < 2147483648 by omega), cl_n (show y < 2147483648 by omega)]
    have hB3 : ∀ v w, GB μ0 (pm_wi (pm_wi (pm_wi μ 390 x (nI (m ||| 2 ^ y))) 388 x v) 389 y w) := fun v w => ⟨fun c hc => by rw [wi_c (by omega), wi_c (by omega)]; exact hB2.1 c hc, hB2.2⟩
    cases hh : had y with
    | none =>
      rw [if_pos (show enc none = -1 from rfl)]
      refine ⟨_, rfl, hB3 _ _, fun z hz => ?_, fun z hz => ?_, fun z hz => ?_⟩
      · unfold gs_has
        rw [wi_c (by omega), hh]
        by_cases e : z = x
        · rw [e, wi_e, if_pos rfl]
          rfl
        · rw [wi_i e, if_neg e, if_neg (fun q => by cases q), wi_c (by omega)]
          exact hA1 z hz
      · unfold gs_had
        by_cases e : z = y
        · rw [e, wi_e, if_pos rfl]
          rfl
        · rw [wi_i e, if_neg e, wi_c (by omega), wi_c (by omega)]
          exact hB1 z hz
      · rw [wi_c (by omega), wi_c (by omega)]
        exact hK2 z hz
    | some r =>
      have hr := hhb r hh
      have hrx : r ≠ x := fun q => by
        have := (hI.2.1 r y).mpr hh
        rw [q, hnone] at this
        cases this
      rw [if_neg (enc_n1 (by omega)), show enc (some r) = nI r from rfl, chk_n (show r < 5 by omega) (by omega), cl_n (show r < 2147483648 by omega)]
      refine ⟨_, rfl, ⟨fun c hc => by rw [wi_c (by omega)]; exact (hB3 _ _).1 c hc, hB.2⟩, fun z hz => ?_, fun z hz => ?_, fun z hz => ?_⟩
      · unfold gs_has
        rw [hh]
        by_cases e : z = r
        · rw [e, wi_e, if_neg hrx, if_pos rfl]
          rfl
        · rw [wi_i e, wi_c (by omega)]
          by_cases e2 : z = x
          · rw [e2, wi_e, if_pos rfl]
            rfl
          · rw [wi_i e2, if_neg e2, if_neg (fun q => e (Option.some.inj q).symm), wi_c (by omega)]
            exact hA1 z hz
      · unfold gs_had
        rw [wi_c (by omega)]
        by_cases e : z = y
        · rw [e, wi_e, if_pos rfl]
          rfl
        · rw [wi_i e, if_neg e, wi_c (by omega), wi_c (by omega)]
          exact hB1 z hz
      · rw [wi_c (by omega), wi_c (by omega), wi_c (by omega)]
        exact hK2 z hz
theorem st_mainF {μ0 : PM} {a : Nat → Int32} {F N : Nat} (hV : VF μ0 1 a) (eF : a 1 = nI F) (hF : F ≤ 5) (eN : a 0 = nI N) (hN : N ≤ 6) : ∃ (μ : PM) (has had : Nat → Option Nat), fX4_settle μ0 1 = some μ ∧ GB μ0 μ ∧ (∀ x, x < 5 → μ.1 388 x = enc (has x)) ∧ (∀ y, y < 6 → μ.1 389 y = enc (had y)) ∧ (∀ x y, has x = some y ↔ had y = some x) ∧
    gs_st F N (fun x y => 0 < wz a x y) (wz a) (fz a) has ∧ ∀ w, gs_st F N (fun x y => 0 < wz a x y) (wz a) (fz a) w → ∀ x y, w x = some y → ∃ y', has x = some y' ∧ ¬ gs_p (wz a) x y y' := by
  obtain ⟨μ1, f1, f2, f3, f4⟩ := q_fill (μ := μ0) (c := 388) (n := 5) (v := -1) (by omega)
  obtain ⟨μ2, g1, g2, g3, g4⟩ := q_fill (μ := μ1) (c := 389) (n := 6) (v := -1) (by omega)
  obtain ⟨μ3, h1, h2, h3, h4⟩ := q_fill (μ := μ2) (c := 390) (n := 6) (v := 0) (by omega)
  have hB : GB μ0 μ3 := ⟨fun c hc => by rw [h3 c (by omega), g3 c (by omega), f3 c (by omega)], by rw [h4, g4, f4]⟩
  have h388 : ∀ z, z < 5 → μ3.1 388 z = -1 := fun z hz => by rw [h3 388 (by omega), g3 388 (by omega)]; exact f2 z hz
  have h389 : ∀ z, z < 6 → μ3.1 389 z = -1 := fun z hz => by rw [h3 389 (by omega)]; exact g2 z hz
  have hR : RelF μ0 μ3 (fun _ => none) (fun _ => none) (fun _ _ => false) := ⟨hB, fun z hz => h388 z hz, fun z hz => h389 z hz, fun z hz => ⟨0, by omega, h2 z (by omega), fun b _ => Nat.zero_testBit b⟩⟩
  have hV3 := hB.vf hV
  have eV : jmin (μ3.1 12 6) 5 = nI F := by rw [v1_families hV3, eF]; exact jm_5 hF
  have hI0 : gs_I F N (fun x y => 0 < wz a x y) (wz a) (fz a) (fun _ => none) (fun _ => none) (ak_p (fun _ _ => false)) := by
    have : ak_p (fun _ _ => false) = fun _ _ => False := by
      funext x y
      unfold ak_p
      exact propext ⟨fun q => (by cases q), fun q => q.elim⟩
    rw [this]
    exact gs_I0
  have bdn : ∀ (v2 v5 : Int32) (T : Nat) (μ : PM), (fun s : Int32 × Int32 × PM => lbX4_settle_110_d 1 v2 v5 s.1 s.2.1 s.2.2) (-1, nI T, μ) = some (.inr (.inl μ)) := fun v2 v5 T μ => by
    show lbX4_settle_110_d 1 v2 v5 (-1) (nI T) μ = _
    unfold lbX4_settle_110_d
    by_cases q : (30 : Int32) < nI T
    · rw [if_pos q]
    · rw [if_neg q, if_pos rfl]
  have rounds : ∀ k i μ has had ak fuel, i + k = F → RelF μ0 μ has had ak → gs_I F N (fun x y => 0 < wz a x y) (wz a) (fz a) has had (ak_p ak) → gs_ex N (fun x y => 0 < wz a x y) i none has ak → k < fuel → ∃ μ' has' had' ak', lp (fun s : Int32 × PM => lbX4_settle_97_d 1 (nI F) s.1 s.2) fuel (nI i, μ) = some μ' ∧ RelF μ0 μ' has' had' ak' ∧ gs_I F N (fun x y => 0 < wz a x y) (wz a) (fz a) has' had' (ak_p ak') ∧ gs_ex N (fun x y => 0 < wz a x y) F none has' ak' := by
    intro k
    induction k with
    | zero =>
      intro i μ has had ak fuel hi hR hI hx hf
      obtain ⟨f, rfl⟩ : ∃ f, fuel = f + 1 := ⟨fuel - 1, by omega⟩
      refine ⟨μ, has, had, ak, lp_e ?_, hR, hI, by rw [show F = i by omega]; exact hx⟩
      show lbX4_settle_97_d 1 (nI F) (nI i) μ = _
      unfold lbX4_settle_97_d
      rw [if_pos (by rw [le_n (by omega) (by omega)]; omega)]
    | succ k ih =>
      intro i μ has had ak fuel hi hR hI hx hf
      obtain ⟨f, rfl⟩ : ∃ f, fuel = f + 1 := ⟨fuel - 1, by omega⟩
      have h30 : N * F ≤ 30 := Nat.le_trans (Nat.mul_le_mul hN hF) (by decide)
      have hle := ak_n_le F N ak
      have hnone : has i = none := by
        cases hq : has i with
        | none => rfl
        | some b =>
          have := (hI.1 i b hq).2.2.2
          unfold ak_p at this
          rw [hx.2 i b (Nat.le_refl _)] at this
          cases this
      obtain ⟨μ', has', had', ak', q1, q2, q3, q4⟩ := gs_turns (st_stepF (v2 := nI F) (v5 := nI i) hV eF hF eN hN) (bdn (nI F) (nI i)) h30 (31 - ak_n F N ak) μ has had ak (some i) 0 (i + 1) go_fuel (by omega) (by omega) (by omega) hR hI (fun a ha => by cases ha; exact ⟨by omega, hnone⟩) ⟨fun x hx1 hxc hxn b hb hacc => by
        have : x ≠ i := fun q => hxc (by rw [q])
        exact hx.1 x (by omega) (fun q => by cases q) hxn b hb hacc, fun x b hxi => hx.2 x b (by omega)⟩ (by unfold go_fuel; omega)
      obtain ⟨μ4, has2, had2, ak2, w1, w2, w3, w4⟩ := ih (i + 1) μ' has' had' ak' f (by omega) q2 q3 q4 (by omega)
      refine ⟨μ4, has2, had2, ak2, ?_, w2, w3, w4⟩
      have hs : lbX4_settle_97_d 1 (nI F) (nI i) μ = some (.inl (nI (i + 1), μ')) := by
        unfold lbX4_settle_97_d
        have q1 : lp (fun s : Int32 × Int32 × PM => lbX4_settle_110_d 1 (nI F) (nI i) s.1 s.2.1 s.2.2) go_fuel (nI i, 0, μ) = some (.inl μ') := q1
        rw [if_neg (by rw [le_n (by omega) (by omega)]; omega), q1, Option.bind_some, add_l 1]
        rfl
      rw [lp_l (s' := (nI (i + 1), μ')) hs]
      exact w1
  obtain ⟨μ4, has, had, ak, w1, w2, w3, w4⟩ := rounds F 0 μ3 _ _ _ go_fuel (by omega) hR hI0 ⟨fun x hx => by omega, fun _ _ _ => rfl⟩ (by unfold go_fuel; omega)
  obtain ⟨e1, e2⟩ := gs_end w3 (fun x hx hxn b hb hacc => w4.1 x hx (fun q => by cases q) hxn b hb hacc)
  refine ⟨μ4, has, had, ?_, w2.1, w2.2.1, w2.2.2.1, w3.2.1, e1, e2⟩
  unfold fX4_settle
  rw [f1, Option.bind_some, g1, Option.bind_some, h1, Option.bind_some, if_neg (by decide), eV]
  unfold jjX4_settle_60 jjX4_settle_76_b
  rw [if_neg (by decide), if_neg (by decide)]
  unfold jjX4_settle_92_d
  have w1 : lp (fun s : Int32 × PM => lbX4_settle_97_d 1 (nI F) s.1 s.2) go_fuel (0, μ3) = some μ4 := w1
  rw [w1]
  rfl
def RelN (μ0 : PM) (μ : PM) (has had : Nat → Option Nat) (ak : Nat → Nat → Bool) : Prop := GB μ0 μ ∧ (∀ a, a < 6 → μ.1 389 a = enc (has a)) ∧ (∀ b, b < 5 → μ.1 388 b = enc (had b)) ∧ ∀ a, a < 6 → ∃ m, m < 64 ∧ μ.1 390 a = nI m ∧ ∀ b, b < 6 → m.testBit b = ak a b
theorem st_stepN {μ0 : PM} {a : Nat → Int32} {F N : Nat} {v2 v5 : Int32} (hV : VF μ0 1 a) (eF : a 1 = nI F) (hF : F ≤ 5) (eN : a 0 = nI N) (hN : N ≤ 6) : gs_step N F (fun x y => 0 < wz a y x) (fz a) (wz a) (fun s : Int32 × Int32 × PM => lbX4_settle_110 0 v2 v5 s.1 s.2.1 s.2.2) (RelN μ0) := by
  intro μ has had ak x T hR hI hx hnone hT
  obtain ⟨hB, hA1, hB1, hK⟩ := hR
  have hV2 := hB.vf hV
  obtain ⟨m, m1, m2, m3⟩ := hK x (by omega)
  obtain ⟨o, b1, b2, b3⟩ := q_best (μ := μ) (th := 0) (v3 := jmin (μ.1 12 6) 5) (a := x) (nb := F) (m := m) (acc := fun y => decide (0 < wz a y x)) (va := fz a) (ak := ak x) (by omega) (by omega) (Or.inl rfl) (by rw [v1_families hV2, eF]; exact jm_5 hF)
    (fun y hy => by
      rw [if_pos rfl]
      exact q_wanted hV2 (by omega) (by omega))
    (fun y o hy ho => q_like0 hV2 (by omega) (by omega) (fun z hz => by have := ho z hz; omega)) m2 m1 (fun y hy => m3 y (by omega))
  have hbest : fX4_bestToAsk μ 0 (nI x) = some (enc o) := by
    unfold fX4_bestToAsk
    rw [if_pos rfl]
    exact b1
  have t30 : ¬ (30 : Int32) < nI T := by rw [l_lt (n := 30) (by omega) (by omega)]; omega
  dsimp only
  unfold lbX4_settle_110
  rw [if_neg t30, if_neg (fun q => (neg1_ne (show x < 2147483648 by omega)).mp q), hbest, Option.bind_some]
  cases o with
  | none =>
    left
    rw [if_pos (show enc none = -1 from rfl)]
    exact ⟨rfl, fun y hy hacc => b3 rfl y hy (decide_eq_true hacc)⟩
  | some y =>
    right
    obtain ⟨c1, c2, c3, c4⟩ := b2 y rfl
    have c2 := of_decide_eq_true c2
    simp only [go_let]
    rw [if_neg (enc_n1 (by omega)), show enc (some y) = nI y from rfl, chk_n (show x < 6 by omega) (by omega), chk_n (show x < 6 by omega) (by omega), chk_n (show y < 5 by omega) (by omega), cl_n (show x < 2147483648 by omega), cl_n (show y < 2147483648 by omega), m2, nb_set (show y < 31 by omega), wi_c (show 388 ≠ 390 by omega), hB1 y (by omega)]
    have hB2 : GB μ0 (pm_wi μ 390 x (nI (m ||| 2 ^ y))) := ⟨fun c hc => by rw [wi_c (by omega)]; exact hB.1 c hc, hB.2⟩
    have hV3 := hB2.vf hV
    have hhb : ∀ z, had y = some z → z < N := fun z hz => (hI.1 z y ((hI.2.1 z y).mpr hz)).1
    have hK2 : ∀ z, z < 6 → ∃ m', m' < 64 ∧ (pm_wi μ 390 x (nI (m ||| 2 ^ y))).1 390 z = nI m' ∧ ∀ b, b < 6 → m'.testBit b = ak_up ak x y z b := fun z hz => by
      by_cases e : z = x
      · subst e
        refine ⟨m ||| 2 ^ y, nb_or_lt (m := 6) m1 (by omega), wi_e, fun b hb => ?_⟩
        rw [bit_up, m3 b hb]
        unfold ak_up
        simp
      · obtain ⟨m', k1, k2, k3⟩ := hK z hz
        refine ⟨m', k1, by rw [wi_i e]; exact k2, fun b hb => ?_⟩
        rw [k3 b hb]
        unfold ak_up
        have : decide (z = x) = false := decide_eq_false e
        rw [this, Bool.false_and, Bool.or_false]
    rw [if_pos trivial]
    unfold jjX4_settle_172_110 jjX4_settle_208_110
    simp only [go_let]
    rw [q_like1 hV3 (by omega) (by omega) (fun z hz => by have := hhb z hz; omega), Option.bind_some, nb_01, add_l 1]
    refine ⟨y, c1, c2, c3, fun y' hy' hacc hn => c4 y' hy' (decide_eq_true hacc) (by unfold ak_p at hn; simpa using hn), ?_⟩
    by_cases hg : gs_o (wz a) y x (had y) = true
    case neg =>
      left
      rw [if_neg hg]
      cases hh : had y with
      | none => rw [hh] at hg; exact absurd rfl hg
      | some z =>
        rw [hh] at hg
        refine ⟨z, _, rfl, fun q => hg (gs_b_iff.mpr q), rfl, hB2, fun b hb => ?_, fun b hb => ?_, hK2⟩
        · rw [wi_c (by omega)]; exact hA1 b hb
        · rw [wi_c (by omega)]; exact hB1 b hb
    right
    refine ⟨fun z hz => by rw [hz] at hg; exact gs_b_iff.mp hg, ?_⟩
    rw [if_pos hg, chk_n (show x < 6 by omega) (by omega), chk_n (show y < 5 by omega) (by omega), cl_n (show x < 2147483648 by omega), cl_n (show y < 2147483648 by omega)]
    have hB3 : ∀ v w, GB μ0 (pm_wi (pm_wi (pm_wi μ 390 x (nI (m ||| 2 ^ y))) 389 x v) 388 y w) := fun v w => ⟨fun c hc => by rw [wi_c (by omega), wi_c (by omega)]; exact hB2.1 c hc, hB2.2⟩
    cases hh : had y with
    | none =>
      rw [if_pos (show enc none = -1 from rfl)]
      refine ⟨_, rfl, hB3 _ _, fun z hz => ?_, fun z hz => ?_, fun z hz => ?_⟩
      · unfold gs_has
        rw [wi_c (by omega), hh]
        by_cases e : z = x
        · rw [e, wi_e, if_pos rfl]
          rfl
        · rw [wi_i e, if_neg e, if_neg (fun q => by cases q), wi_c (by omega)]
          exact hA1 z hz
      · unfold gs_had
        by_cases e : z = y
        · rw [e, wi_e, if_pos rfl]
          rfl
        · rw [wi_i e, if_neg e, wi_c (by omega), wi_c (by omega)]
          exact hB1 z hz
      · rw [wi_c (by omega), wi_c (by omega)]
        exact hK2 z hz
    | some r =>
      have hr := hhb r hh
      have hrx : r ≠ x := fun q => by
        have := (hI.2.1 r y).mpr hh
        rw [q, hnone] at this
        cases this
      rw [if_neg (enc_n1 (by omega)), show enc (some r) = nI r from rfl, chk_n (show r < 6 by omega) (by omega), cl_n (show r < 2147483648 by omega)]
      refine ⟨_, rfl, ⟨fun c hc => by rw [wi_c (by omega)]; exact (hB3 _ _).1 c hc, hB.2⟩, fun z hz => ?_, fun z hz => ?_, fun z hz => ?_⟩
      · unfold gs_has
        rw [hh]
        by_cases e : z = r
        · rw [e, wi_e, if_neg hrx, if_pos rfl]
          rfl
        · rw [wi_i e, wi_c (by omega)]
          by_cases e2 : z = x
          · rw [e2, wi_e, if_pos rfl]
            rfl
          · rw [wi_i e2, if_neg e2, if_neg (fun q => e (Option.some.inj q).symm), wi_c (by omega)]
            exact hA1 z hz
      · unfold gs_had
        rw [wi_c (by omega)]
        by_cases e : z = y
        · rw [e, wi_e, if_pos rfl]
          rfl
        · rw [wi_i e, if_neg e, wi_c (by omega), wi_c (by omega)]
          exact hB1 z hz
      · rw [wi_c (by omega), wi_c (by omega), wi_c (by omega)]
        exact hK2 z hz
theorem st_mainN {μ0 : PM} {a : Nat → Int32} {F N : Nat} (hV : VF μ0 1 a) (eF : a 1 = nI F) (hF : F ≤ 5) (eN : a 0 = nI N) (hN : N ≤ 6) : ∃ (μ : PM) (has had : Nat → Option Nat), fX4_settle μ0 0 = some μ ∧ GB μ0 μ ∧ (∀ x, x < 6 → μ.1 389 x = enc (has x)) ∧ (∀ y, y < 5 → μ.1 388 y = enc (had y)) ∧ (∀ x y, has x = some y ↔ had y = some x) ∧
    gs_st N F (fun x y => 0 < wz a y x) (fz a) (wz a) has ∧ ∀ w, gs_st N F (fun x y => 0 < wz a y x) (fz a) (wz a) w → ∀ x y, w x = some y → ∃ y', has x = some y' ∧ ¬ gs_p (fz a) x y y' := by
  obtain ⟨μ1, f1, f2, f3, f4⟩ := q_fill (μ := μ0) (c := 388) (n := 5) (v := -1) (by omega)
  obtain ⟨μ2, g1, g2, g3, g4⟩ := q_fill (μ := μ1) (c := 389) (n := 6) (v := -1) (by omega)
  obtain ⟨μ3, h1, h2, h3, h4⟩ := q_fill (μ := μ2) (c := 390) (n := 6) (v := 0) (by omega)
  have hB : GB μ0 μ3 := ⟨fun c hc => by rw [h3 c (by omega), g3 c (by omega), f3 c (by omega)], by rw [h4, g4, f4]⟩
  have h388 : ∀ z, z < 5 → μ3.1 388 z = -1 := fun z hz => by rw [h3 388 (by omega), g3 388 (by omega)]; exact f2 z hz
  have h389 : ∀ z, z < 6 → μ3.1 389 z = -1 := fun z hz => by rw [h3 389 (by omega)]; exact g2 z hz
  have hR : RelN μ0 μ3 (fun _ => none) (fun _ => none) (fun _ _ => false) := ⟨hB, fun z hz => h389 z hz, fun z hz => h388 z hz, fun z hz => ⟨0, by omega, h2 z (by omega), fun b _ => Nat.zero_testBit b⟩⟩
  have hV3 := hB.vf hV
  have eV : jmin (μ3.1 12 5) 6 = nI N := by rw [v1_names hV3, eN]; exact jm_6 hN
  have hI0 : gs_I N F (fun x y => 0 < wz a y x) (fz a) (wz a) (fun _ => none) (fun _ => none) (ak_p (fun _ _ => false)) := by
    have : ak_p (fun _ _ => false) = fun _ _ => False := by
      funext x y
      unfold ak_p
      exact propext ⟨fun q => (by cases q), fun q => q.elim⟩
    rw [this]
    exact gs_I0
  have bdn : ∀ (v2 v5 : Int32) (T : Nat) (μ : PM), (fun s : Int32 × Int32 × PM => lbX4_settle_110 0 v2 v5 s.1 s.2.1 s.2.2) (-1, nI T, μ) = some (.inr (.inl μ)) := fun v2 v5 T μ => by
    show lbX4_settle_110 0 v2 v5 (-1) (nI T) μ = _
    unfold lbX4_settle_110
    by_cases q : (30 : Int32) < nI T
    · rw [if_pos q]
    · rw [if_neg q, if_pos rfl]
  have rounds : ∀ k i μ has had ak fuel, i + k = N → RelN μ0 μ has had ak → gs_I N F (fun x y => 0 < wz a y x) (fz a) (wz a) has had (ak_p ak) → gs_ex F (fun x y => 0 < wz a y x) i none has ak → k < fuel → ∃ μ' has' had' ak', lp (fun s : Int32 × PM => lbX4_settle_97 0 (nI N) s.1 s.2) fuel (nI i, μ) = some μ' ∧ RelN μ0 μ' has' had' ak' ∧ gs_I N F (fun x y => 0 < wz a y x) (fz a) (wz a) has' had' (ak_p ak') ∧ gs_ex F (fun x y => 0 < wz a y x) N none has' ak' := by
    intro k
    induction k with
    | zero =>
      intro i μ has had ak fuel hi hR hI hx hf
      obtain ⟨f, rfl⟩ : ∃ f, fuel = f + 1 := ⟨fuel - 1, by omega⟩
      refine ⟨μ, has, had, ak, lp_e ?_, hR, hI, by rw [show N = i by omega]; exact hx⟩
      show lbX4_settle_97 0 (nI N) (nI i) μ = _
      unfold lbX4_settle_97
      rw [if_pos (by rw [le_n (by omega) (by omega)]; omega)]
    | succ k ih =>
      intro i μ has had ak fuel hi hR hI hx hf
      obtain ⟨f, rfl⟩ : ∃ f, fuel = f + 1 := ⟨fuel - 1, by omega⟩
      have h30 : F * N ≤ 30 := Nat.le_trans (Nat.mul_le_mul hF hN) (by decide)
      have hle := ak_n_le N F ak
      have hnone : has i = none := by
        cases hq : has i with
        | none => rfl
        | some b =>
          have := (hI.1 i b hq).2.2.2
          unfold ak_p at this
          rw [hx.2 i b (Nat.le_refl _)] at this
          cases this
      obtain ⟨μ', has', had', ak', q1, q2, q3, q4⟩ := gs_turns (st_stepN (v2 := nI N) (v5 := nI i) hV eF hF eN hN) (bdn (nI N) (nI i)) h30 (31 - ak_n N F ak) μ has had ak (some i) 0 (i + 1) go_fuel (by omega) (by omega) (by omega) hR hI (fun a ha => by cases ha; exact ⟨by omega, hnone⟩) ⟨fun x hx1 hxc hxn b hb hacc => by
        have : x ≠ i := fun q => hxc (by rw [q])
        exact hx.1 x (by omega) (fun q => by cases q) hxn b hb hacc, fun x b hxi => hx.2 x b (by omega)⟩ (by unfold go_fuel; omega)
      obtain ⟨μ4, has2, had2, ak2, w1, w2, w3, w4⟩ := ih (i + 1) μ' has' had' ak' f (by omega) q2 q3 q4 (by omega)
      refine ⟨μ4, has2, had2, ak2, ?_, w2, w3, w4⟩
      have hs : lbX4_settle_97 0 (nI N) (nI i) μ = some (.inl (nI (i + 1), μ')) := by
        unfold lbX4_settle_97
        have q1 : lp (fun s : Int32 × Int32 × PM => lbX4_settle_110 0 (nI N) (nI i) s.1 s.2.1 s.2.2) go_fuel (nI i, 0, μ) = some (.inl μ') := q1
        rw [if_neg (by rw [le_n (by omega) (by omega)]; omega), q1, Option.bind_some, add_l 1]
        rfl
      rw [lp_l (s' := (nI (i + 1), μ')) hs]
      exact w1
  obtain ⟨μ4, has, had, ak, w1, w2, w3, w4⟩ := rounds N 0 μ3 _ _ _ go_fuel (by omega) hR hI0 ⟨fun x hx => by omega, fun _ _ _ => rfl⟩ (by unfold go_fuel; omega)
  obtain ⟨e1, e2⟩ := gs_end w3 (fun x hx hxn b hb hacc => w4.1 x hx (fun q => by cases q) hxn b hb hacc)
  refine ⟨μ4, has, had, ?_, w2.1, w2.2.1, w2.2.2.1, w3.2.1, e1, e2⟩
  unfold fX4_settle
  rw [f1, Option.bind_some, g1, Option.bind_some, h1, Option.bind_some, if_pos rfl, eV]
  unfold jjX4_settle_60 jjX4_settle_76
  rw [if_pos rfl, if_pos rfl]
  unfold jjX4_settle_92
  have w1 : lp (fun s : Int32 × PM => lbX4_settle_97 0 (nI N) s.1 s.2) go_fuel (0, μ3) = some μ4 := w1
  rw [w1]
  rfl
