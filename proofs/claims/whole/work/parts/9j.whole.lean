/-! ===== whole ===== -/
theorem wz_lit {V : Int64} {x : Nat} (h : V.toInt = x) (hx : x ≤ 100000000000) : ((10 : Int64) * V).toInt = ((10 * x : Nat) : Int) := lN_mul2 (x := 10) (by decide) h (by omega)
theorem q_wholeM {μm : PM} {tx : Option Nat} {n f t z S : Nat} {a : Nat → Nat} (hB : BK tx μm n a) (hn : n < 6) (hft : f ≤ t) (ht : t < 10) (ez : μm.1 402 (13 + 2 * n) = nI z) (hz : z ≤ 5) (hS : S < 1024) {μ : PM} (hμ : LM μm μ) :
    ∃ V μ', fX12_wholeBy μ (nI n) (nI f) (nI t) (nI S) = some (V, μ') ∧ V.toInt = ((wz_rp a (wz_w f t) (fun c => S.testBit c && decide (1 < z)) 10 : Nat) : Int) ∧ LM μm μ' := by
  have hoff : ∀ c, c ≤ f ∨ t < c → wz_w f t c = false := fun c hc => by
    unfold wz_w
    exact decide_eq_false (by omega)
  have hon : ∀ c, f < c → c ≤ t → wz_w f t c = true := fun c h1 h2 => by
    unfold wz_w
    exact decide_eq_true ⟨h1, h2⟩
  obtain ⟨⟨V, μ'⟩, l1, l2, l3⟩ := lp_inv (f := fun s : Int64 × Int32 × PM => lbX12_wholeBy_8 (nI n) (nI f) (nI t) (nI S) s.1 s.2.1 s.2.2)
    (fun s => ∃ k, f < k ∧ k ≤ t + 1 ∧ s.2.1 = nI k ∧ s.1.toInt = ((wz_rp a (wz_w f t) (fun c => S.testBit c && decide (1 < z)) k : Nat) : Int) ∧ LM μm s.2.2) (fun s => 11 - s.2.1.toNatClampNeg)
    (fun r => r.1.toInt = ((wz_rp a (wz_w f t) (fun c => S.testBit c && decide (1 < z)) 10 : Nat) : Int) ∧ LM μm r.2)
    (fun s hI => by
      obtain ⟨V, s2, μ⟩ := s
      obtain ⟨k, k1, k2, k3, k4, k5⟩ := hI
      have k3 : s2 = nI k := k3
      have k4 : V.toInt = ((wz_rp a (wz_w f t) (fun c => S.testBit c && decide (1 < z)) k : Nat) : Int) := k4
      have k5 : LM μm μ := k5
      subst k3
      have hlt : nI t < nI k ↔ t < k := lt_n (by omega) (by omega)
      have e402 : μ.1 402 = μm.1 402 := k5 402 (by omega) (by omega)
      dsimp only
      unfold lbX12_wholeBy_8 jjX12_wholeBy_50_8 jjX12_wholeBy_53_8
      by_cases hk : t < k
      · right
        rw [if_pos (hlt.mpr hk)]
        have := wz_rp_off (a := a) (w := wz_w f t) (p := fun c => S.testBit c && decide (1 < z)) (i := k) (10 - k) (fun c c1 c2 => hoff c (by omega))
        rw [show k + (10 - k) = 10 by omega] at this
        exact ⟨_, rfl, by rw [this]; exact k4, k5⟩
      left
      have hle2 := wz_rp_le (w := wz_w f t) (p := fun c => S.testBit c && decide (1 < z)) (fun c hc => (hB c hc).1) (k + 1) (by omega)
      have hpw : 10 ^ (k + 1) ≤ 10 ^ 10 := Nat.pow_le_pow_right (by decide) (by omega)
      have hle1 := wz_rp_le (w := wz_w f t) (p := fun c => S.testBit c && decide (1 < z)) (fun c hc => (hB c hc).1) k (by omega)
      have hpw1 : 10 ^ k ≤ 10 ^ 10 := Nat.pow_le_pow_right (by decide) (by omega)
      have eN : wz_rp a (wz_w f t) (fun c => S.testBit c && decide (1 < z)) (k + 1) = wz_rp a (wz_w f t) (fun c => S.testBit c && decide (1 < z)) k * (if (S.testBit k && decide (1 < z)) = true then a k else 10) := by
        conv => lhs; unfold wz_rp
        exact if_pos (hon k k1 (by omega))
      have hle : nI z ≤ 1 ↔ z ≤ 1 := le_l (n := 1) (by omega) (by omega)
      rw [if_neg (fun q => hk (hlt.mp q)), nb_has (by omega) (by omega), nb_01, add_l 1]
      by_cases hb : (S.testBit k && decide (1 < z)) = true
      · obtain ⟨b1, b2⟩ := Bool.and_eq_true_iff.mp hb
        have b2 : 1 < z := of_decide_eq_true b2
        obtain ⟨c1, -, c2⟩ := hB k (by omega)
        obtain ⟨μ4, c3, c4⟩ := c2 μ k5
        rw [if_pos hb] at eN
        rw [eN] at hle2
        rw [if_pos b1, (q_getM hn).2, Option.bind_some, e402, ez, if_neg (fun q => absurd (hle.mp q) (by omega)), c3, Option.bind_some]
        dsimp only
        rw [l_sub (n := 10) (show 10 - a k ≤ 10 by omega), show 10 - (10 - a k) = a k by omega]
        refine ⟨_, rfl, ⟨k + 1, by omega, by omega, rfl, ?_, k5.tr c4⟩, by dsimp only; rw [cl_n (show k + 1 < 2147483648 by omega), cl_n (show k < 2147483648 by omega)]; omega⟩
        rw [eN]
        exact lN_mul2 k4 (by rw [il, ti_n (by omega)]) (by omega)
      · rw [if_neg hb] at eN
        have fin : ∃ s' : Int64 × Int32 × PM, (some (.inl (V * 10, nI (k + 1), μ)) : Option ((Int64 × Int32 × PM) ⊕ (Int64 × PM))) = some (.inl s') ∧ (∃ k, f < k ∧ k ≤ t + 1 ∧ s'.2.1 = nI k ∧ s'.1.toInt = ((wz_rp a (wz_w f t) (fun c => S.testBit c && decide (1 < z)) k : Nat) : Int) ∧ LM μm s'.2.2) ∧ 11 - s'.2.1.toNatClampNeg < 11 - (nI k).toNatClampNeg := by
          refine ⟨_, rfl, ⟨k + 1, by omega, by omega, rfl, ?_, k5⟩, by dsimp only; rw [cl_n (show k + 1 < 2147483648 by omega), cl_n (show k < 2147483648 by omega)]; omega⟩
          rw [eN]
          exact lN_mul10 k4 (by omega)
        by_cases b1 : S.testBit k = true
        · have b2 : z ≤ 1 := by
            rw [b1, Bool.true_and] at hb
            have := mt (decide_eq_true (p := 1 < z)) hb
            omega
          rw [if_pos b1, (q_getM hn).2, Option.bind_some, e402, ez, if_pos (hle.mpr b2)]
          exact fin
        · rw [if_neg b1]
          exact fin)
    go_fuel (1, nI (f + 1), μ)
    ⟨f + 1, by omega, by omega, rfl, by
      have := wz_rp_off (a := a) (w := wz_w f t) (p := fun c => S.testBit c && decide (1 < z)) (i := 0) (f + 1) (fun c c1 c2 => hoff c (by omega))
      rw [Nat.zero_add] at this
      rw [this]
      show (1 : Int64).toInt = ((1 : Nat) : Int)
      decide, hμ⟩
    (by unfold go_fuel; dsimp only; omega)
  unfold fX12_wholeBy
  rw [add_l 1, l1]
  exact ⟨V, μ', rfl, l2, l3⟩
theorem wz_G {a : Nat → Nat} {f t : Nat} {p q : Nat → Bool} (hft : f ≤ t) (ht : t < 10) (hp : ∀ c, c < 10 → (wz_w f t c && p c) = q c) : ∃ d, wz_rp a (wz_w f t) p 10 = wz_pr a q 10 * 10 ^ d ∧ 10 ^ (t - f) = 10 ^ wz_cnt q 10 * 10 ^ d ∧ wz_cnt q 10 ≤ 10 := by
  have e1 : wz_cnt (wz_w f t) 10 = t - f := wz_way t ht f hft
  have e2 := wz_cnt_sp (w := wz_w f t) (p := p) 10
  have e3 : wz_cnt (fun c => wz_w f t c && p c) 10 = wz_cnt q 10 := wz_cnt_eq 10 hp
  refine ⟨wz_cnt (fun c => wz_w f t c && !p c) 10, ?_, ?_, by omega⟩
  · rw [wz_rp_eq, wz_pr_eq 10 hp]
  · rw [← Nat.pow_add, ← e1, e2, e3]
theorem wz_b0 {big : Bool} {W f t c : Nat} (hc : c < 10) : (wz_w f t c && (W.testBit c && big)) = ((nb_sel (wz_P big W f t) 10).testBit c && !Nat.testBit 0 c) := by
  rw [wz_tb, decide_eq_true hc, Nat.zero_testBit]
  unfold wz_P
  cases wz_w f t c <;> cases W.testBit c <;> cases big <;> rfl
theorem wz_bT {big : Bool} {W f t T c : Nat} (hc : c < 10) : (wz_w f t c && ((W &&& (T ^^^ 4294967295)).testBit c && big)) = ((nb_sel (wz_P big W f t) 10).testBit c && !T.testBit c) := by
  rw [wz_tb, decide_eq_true hc, wz_K hc]
  unfold wz_P
  cases wz_w f t c <;> cases W.testBit c <;> cases T.testBit c <;> cases big <;> rfl
theorem q_wayC (b c : Int32) : fX11_isWay b c = if (0 ≤ b.toInt ∧ b.toInt ≤ 9) ∧ (0 ≤ c.toInt ∧ c.toInt ≤ 9) ∧ b.toInt ≤ c.toInt then 1 else 0 := by
  unfold fX11_isWay
  rw [q_cellC, q_cellC, q_ite, q_ite]
  simp only [i_lt]
  by_cases h1 : 0 ≤ b.toInt ∧ b.toInt ≤ 9
  · rw [if_pos h1]
    by_cases h2 : 0 ≤ c.toInt ∧ c.toInt ≤ 9
    · rw [if_pos h2]
      by_cases h3 : c.toInt < b.toInt
      · rw [if_pos h3, if_neg (by omega)]
      · rw [if_neg h3, if_pos (by omega)]
    · rw [if_neg h2, if_neg (fun q => h2 q.2.1)]
  · rw [if_neg h1, if_neg (fun q => h1 q.1)]
theorem q_stream {μ : PM} (hO : OB (μ.1 402)) (a b c : Int32) : fX12_isStream μ a b c = if (0 ≤ a.toInt ∧ a.toInt < (μ.1 402 0).toInt) ∧ (0 ≤ b.toInt ∧ b.toInt ≤ 9) ∧ (0 ≤ c.toInt ∧ c.toInt ≤ 9) ∧ b.toInt ≤ c.toInt then 1 else 0 := by
  unfold fX12_isStream
  rw [q_nameM hO, q_cellM, q_cellM, q_ite, q_ite, q_ite]
  simp only [i_lt]
  by_cases h0 : 0 ≤ a.toInt ∧ a.toInt < (μ.1 402 0).toInt
  case neg => rw [if_neg h0, if_neg (fun q => h0 q.1)]
  rw [if_pos h0]
  by_cases h1 : 0 ≤ b.toInt ∧ b.toInt ≤ 9
  · rw [if_pos h1]
    by_cases h2 : 0 ≤ c.toInt ∧ c.toInt ≤ 9
    · rw [if_pos h2]
      by_cases h3 : c.toInt < b.toInt
      · rw [if_pos h3, if_neg (by omega)]
      · rw [if_neg h3, if_pos (by omega)]
    · rw [if_neg h2, if_neg (fun q => h2 q.2.2.1)]
  · rw [if_neg h1, if_neg (fun q => h1 q.2.1)]
theorem lN_div {A g : Int64} {x y : Nat} (hA : A.toInt = x) (hg : g.toInt = y) (hx : x ≤ 1000000000000) : (A / g).toInt = ((x / y : Nat) : Int) := by
  rw [tl_div (by rw [hA]; omega), hA, hg]
  rfl
theorem c_whole (n f t w : Int32) : BOTH (fun μ => fX11_whole μ n f t w) (fun μ => fX12_whole μ n f t w) := by
  intro μc μm h
  have hO := h.1.2.2.2.1
  have hnb := ob_names hO
  dsimp only
  unfold fX11_whole fX12_whole
  rw [q_nameC h.1.1 hO, q_ite, q_wayC, q_ite, q_stream hO, q_ite]
  by_cases h0 : 0 ≤ n.toInt ∧ n.toInt < (μm.1 402 0).toInt
  case neg =>
    rw [if_neg h0, if_neg (fun q => h0 q.1)]
    exact ⟨-1, μc, μm, rfl, rfl, h, FrC.rfl' _, FrM.rfl' _⟩
  by_cases h1 : (0 ≤ f.toInt ∧ f.toInt ≤ 9) ∧ (0 ≤ t.toInt ∧ t.toInt ≤ 9) ∧ f.toInt ≤ t.toInt
  case neg =>
    rw [if_pos h0, if_neg h1, if_neg (fun q => h1 q.2)]
    exact ⟨-1, μc, μm, rfl, rfl, h, FrC.rfl' _, FrM.rfl' _⟩
  rw [if_pos h0, if_pos h1, if_pos ⟨h0, h1⟩]
  obtain ⟨i, rfl, hi, -⟩ := nz_of (v := n) (k := 6) h0.1 (by omega)
  obtain ⟨x, rfl, hx, hx2⟩ := nz_of (v := f) (k := 10) h1.1.1 (by omega)
  obtain ⟨y, rfl, hy, hy2⟩ := nz_of (v := t) (k := 10) h1.2.1.1 (by omega)
  have hxy : x ≤ y := by omega
  have hi6 : i < 6 := by omega
  have hstb := ob_stones hO
  have hszb := ob_size hO hi6
  obtain ⟨W, eW, hW, -⟩ := nz_of (v := μm.1 402 10) (k := 1024) hstb.1 (by omega)
  obtain ⟨z, ez, hz, -⟩ := nz_of (v := μm.1 402 (13 + 2 * i)) (k := 6) hszb.1 (by omega)
  obtain ⟨tx, f1, hT⟩ := ph_find (RR_ph h)
  obtain ⟨a, hB⟩ := BK_ex h hi6 hT
  have h10 : ∀ c, c < 10 → a c ≤ 10 := fun c hc => (hB c hc).1
  obtain ⟨μ1, l1, l2, l3, l4⟩ := q_look h hB hi6 hxy (by omega) eW (by omega) ez (by omega)
  have hR2 := nb_sel_lt (wz_P (decide (1 < z)) W x y) 10
  have l4 : ∀ c, c < 10 → (nb_sel (wz_P (decide (1 < z)) W x y) 10).testBit c = true → μ1.1 400 c = nI (a c) := fun c hc q => l4 c hc (by
    rw [wz_tb] at q
    exact (Bool.and_eq_true_iff.mp q).2)
  obtain ⟨U, u1, u2⟩ := q_upper (S := 0) l3 (by omega) l4 h10
  obtain ⟨L, v1, v2, v3⟩ := q_lower (S := 0) l3 (by omega)
  obtain ⟨V, μ2, w1, w2, w3⟩ := q_wholeM (S := W) hB hi6 hxy (by omega) ez (by omega) (by omega) (LM.rfl' μm)
  obtain ⟨Q, t1, t2⟩ := q_tensM (n := y - x) (by omega)
  obtain ⟨d, d1, d2, -⟩ := wz_G (a := a) (f := x) (t := y) (p := fun c => W.testBit c && decide (1 < z)) (q := fun c => (nb_sel (wz_P (decide (1 < z)) W x y) 10).testBit c && !Nat.testBit 0 c) hxy (by omega) (fun c hc => wz_b0 hc)
  have hUle := wz_pr_le (p := fun c => (nb_sel (wz_P (decide (1 < z)) W x y) 10).testBit c && !Nat.testBit 0 c) h10 10 (by omega)
  have hVle := wz_rp_le (w := wz_w x y) (p := fun c => W.testBit c && decide (1 < z)) h10 10 (by omega)
  have hLle : 10 ^ wz_cnt (fun c => (nb_sel (wz_P (decide (1 < z)) W x y) 10).testBit c && !Nat.testBit 0 c) 10 ≤ 10 ^ 10 := Nat.pow_le_pow_right (by decide) v3
  have hLpos : 1 ≤ 10 ^ wz_cnt (fun c => (nb_sel (wz_P (decide (1 < z)) W x y) 10).testBit c && !Nat.testBit 0 c) 10 := Nat.one_le_pow _ _ (by decide)
  have hQle : 10 ^ (y - x) ≤ 10 ^ 10 := Nat.pow_le_pow_right (by decide) (by omega)
  have hdpos : 0 < 10 ^ d := Nat.pow_pos (by decide)
  rw [d1] at w2 hVle
  rw [d2] at t2 hQle
  generalize wz_pr a (fun c => (nb_sel (wz_P (decide (1 < z)) W x y) 10).testBit c && !Nat.testBit 0 c) 10 = u at u2 w2 hUle hVle
  generalize 10 ^ wz_cnt (fun c => (nb_sel (wz_P (decide (1 < z)) W x y) 10).testBit c && !Nat.testBit 0 c) 10 = l at v2 t2 hLle hLpos hQle
  generalize 10 ^ d = e at w2 t2 hdpos hVle hQle
  have hg : 0 < Nat.gcd u l := Nat.gcd_pos_of_pos_right u (by omega)
  obtain ⟨g1, c1, c2⟩ := q_gcdC (A := U) (B := L) u2 v2 (by omega) (by omega)
  obtain ⟨g2, e1, e2⟩ := q_gcdM (A := V) (B := Q) w2 t2 (by omega) (by omega)
  rw [Nat.gcd_mul_right] at e2
  have hge : 0 < Nat.gcd u l * e := Nat.mul_pos hg hdpos
  have z0 : (0 : Int64).toInt = 0 := by decide
  have u1 : fX5_upperWithout μ1 0 = some U := u1
  have v1 : fX5_lowerWithout μ1 0 = some L := v1
  rw [f1, Option.bind_some, l1, Option.bind_some, u1, Option.bind_some, v1, Option.bind_some, c1, Option.bind_some, eW, w1, Option.bind_some, nI_subI hxy, t1, Option.bind_some]
  unfold jjX12_whole_50
  dsimp only
  rw [e1, Option.bind_some, Option.bind_some]
  unfold go_nzl
  rw [if_neg (show ¬ lg_cmp g1 0 = 0 by rw [lc_eq, z0]; omega), if_neg (show ¬ g1 = 0 by rw [eq_L, z0]; omega), if_neg (show ¬ g1 = 0 by rw [eq_L, z0]; omega), if_neg (show ¬ g2 = 0 by rw [eq_L, z0, e2]; omega), if_neg (show ¬ g2 = 0 by rw [eq_L, z0, e2]; omega)]
  have hRR := RR_lp h l2 w3
  have k1 : U / g1 = V / g2 := by
    rw [eq_L, lN_div u2 c2 (by omega), lN_div w2 e2 (by omega), Nat.mul_div_mul_right _ _ hdpos]
  have k2 : L / g1 = Q / g2 := by
    rw [eq_L, lN_div v2 c2 (by omega), lN_div t2 e2 (by omega), Nat.mul_div_mul_right _ _ hdpos]
  by_cases hw : w = 0
  · rw [if_pos hw, if_pos hw]
    exact ⟨_, μ1, μ2, rfl, by rw [k1], hRR⟩
  · rw [if_neg hw, if_neg hw]
    exact ⟨_, μ1, μ2, rfl, by rw [k2], hRR⟩
