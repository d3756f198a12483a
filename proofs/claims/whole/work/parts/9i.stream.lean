/-! ===== a stream: what its stones leave ===== -/
theorem lN_mul2 {A B : Int64} {x y : Nat} (hA : A.toInt = x) (hB : B.toInt = y) (h : x * y ≤ 1000000000000) : (A * B).toInt = ((x * y : Nat) : Int) := by
  have e : A.toInt * B.toInt = ((x * y : Nat) : Int) := by rw [hA, hB]; exact (Int.natCast_mul x y).symm
  generalize hxy : x * y = d at e h ⊢
  rw [tl_mul (by rw [e]; omega) (by rw [e]; omega), e]
def LCP (μ μ' : PM) : Prop := (∀ c, c ≠ 384 → c ≠ 385 → c ≠ 399 → c ≠ 400 → μ'.1 c = μ.1 c) ∧ μ'.2 = μ.2
theorem LCP.rfl' (μ : PM) : LCP μ μ := ⟨fun _ _ _ _ _ => rfl, rfl⟩
theorem LCP.wi {μ μ' : PM} {c i : Nat} {v : Int32} (h : LCP μ μ') (hc : c = 399 ∨ c = 400) : LCP μ (pm_wi μ' c i v) := ⟨fun x k1 k2 k3 k4 => (wi_c (by omega)).trans (h.1 x k1 k2 k3 k4), (wi_2 _ _ _ _).trans h.2⟩
theorem LCP.lc {a b c : PM} (h : LCP a b) (h2 : LC b c) : LCP a c := ⟨fun x k1 k2 k3 k4 => (h2.1 x k1 k2).trans (h.1 x k1 k2 k3 k4), h2.2.trans h.2⟩
theorem RR_lp {μc μm μc' μm' : PM} (h : RR μc μm) (hC : LCP μc μc') (hM : LM μm μm') : RR μc' μm' ∧ FrC μc μc' ∧ FrM μm μm' := by
  have hEC : EC μc μc' := ⟨hC.1 0 (by omega) (by omega) (by omega) (by omega), fun c h1 h2 => hC.1 c (by omega) (by omega) (by omega) (by omega), fun c h1 h2 => hC.1 c (by omega) (by omega) (by omega) (by omega), fun c h1 => hC.1 c (by omega) (by omega) (by omega) (by omega), hC.2⟩
  have e1 := hM 401 (by omega) (by omega)
  have e2 := hM 402 (by omega) (by omega)
  have hEM : EM μm μm' := ⟨⟨by rw [e1], by rw [e1], by rw [e1], by rw [e1]⟩, hM 403 (by omega) (by omega), hM 404 (by omega) (by omega), hM 405 (by omega) (by omega), fun c hc => hM c (by omega) (by omega)⟩
  exact RR_of h hEC hEM (by rw [e2]; exact VV_eq h.1 (fun c h1 h2 => hC.1 c (by omega) (by omega) (by omega) (by omega))) (by rw [e2])
/-- what each stone leaves, of ten -/
def BK (tx : Option Nat) (μm : PM) (n : Nat) (a : Nat → Nat) : Prop := ∀ c, c < 10 → a c ≤ 10 ∧ (∀ μ, RR μ μm → ∃ μ', fX2_askBreaks μ tx 12 (nI n) (nI c) = some (nI (10 - a c), μ') ∧ LC μ μ') ∧ (∀ μ, LM μm μ → ∃ μ', fX12_breaksOf μ (nI n) (nI c) = some (nI (10 - a c), μ') ∧ LM μ μ')
def bk_z (μm : PM) (n c : Nat) : Nat := match fX12_breaksOf μm (nI n) (nI c) with
  | some q => q.1.toNatClampNeg
  | none => 0
theorem BK_ex {μc μm : PM} {tx : Option Nat} {n : Nat} (h : RR μc μm) (hn : n < 6) (hT : TA μm tx (μm.1 402 3)) : ∃ a, BK tx μm n a := by
  refine ⟨fun c => 10 - bk_z μm n c, fun c hc => ?_⟩
  have hcv : 0 ≤ (nI c).toInt ∧ (nI c).toInt ≤ 9 := by rw [ti_n (by omega)]; omega
  obtain ⟨r, μ1, μ2, g1, g2, g3, g4, g5, g6, g7⟩ := ph_breaks (RR_ph h) (Or.inl rfl) hn hcv hT
  obtain ⟨b, eb, hb, -⟩ := nz_of (v := r) (k := 11) g6 (by omega)
  have ebz : bk_z μm n c = b := by
    unfold bk_z
    rw [g2, eb]
    exact cl_n (by omega)
  have e10 : 10 - (10 - bk_z μm n c) = b := by omega
  dsimp only
  rw [e10, ← eb]
  refine ⟨by omega, fun μ hμ => ?_, fun μ hμ => ?_⟩
  · obtain ⟨r', μ3, μ4, k1, k2, k3, k4, k5, -⟩ := ph_breaks (RR_ph hμ) (Or.inl rfl) hn hcv hT
    rw [g2] at k2
    have e1 := (Prod.mk.inj (Option.some.inj k2)).1
    rw [← e1] at k1
    exact ⟨μ3, k1, k4⟩
  · have hR := (RR_l h (LC.rfl' μc) hμ).1
    have e402 : μ.1 402 = μm.1 402 := hμ 402 (by omega) (by omega)
    have hT' : TA μ tx (μ.1 402 3) := by
      unfold TA at hT ⊢
      rw [e402]
      exact hT
    obtain ⟨r', μ3, μ4, k1, k2, k3, k4, k5, -⟩ := ph_breaks (RR_ph hR) (Or.inl rfl) hn hcv hT'
    rw [g1] at k1
    have e1 := (Prod.mk.inj (Option.some.inj k1)).1
    rw [← e1] at k2
    exact ⟨μ4, k2, k5⟩
def wz_w (f t c : Nat) : Bool := decide (f < c ∧ c ≤ t)
def wz_P (big : Bool) (W f t c : Nat) : Bool := wz_w f t c && (W.testBit c && big)
theorem q_look {μc μm : PM} {tx : Option Nat} {n f t W z : Nat} {a : Nat → Nat} (h : RR μc μm) (hB : BK tx μm n a) (hn : n < 6) (hft : f ≤ t) (ht : t < 10) (eW : μm.1 402 10 = nI W) (hW : W < 1024) (ez : μm.1 402 (13 + 2 * n) = nI z) (hz : z ≤ 5) :
    ∃ μ', fX5_look μc tx 12 (nI n) (nI f) (nI t) = some μ' ∧ LCP μc μ' ∧ μ'.1 399 1 = nI (nb_sel (wz_P (decide (1 < z)) W f t) 10) ∧ ∀ c, c < 10 → wz_P (decide (1 < z)) W f t c = true → μ'.1 400 c = nI (a c) := by
  have eS : (pm_wi μc 399 1 0).1 (12 + 2) n = nI z := by
    rw [wi_c (by decide)]
    exact (v1_size h.1.1 hn).trans ez
  unfold fX5_look
  simp only [go_let]
  rw [if_neg (nI_pos (by omega)), if_neg (by rw [l_le (n := 6) (by omega) (by omega)]; omega), chk_n hn (by omega), cl_n (show n < 2147483648 by omega), eS]
  have hle : nI z ≤ 1 ↔ z ≤ 1 := le_l (n := 1) (by omega) (by omega)
  by_cases h1 : z ≤ 1
  · rw [if_pos (hle.mpr h1)]
    have hP : ∀ c, wz_P (decide (1 < z)) W f t c = false := fun c => by
      unfold wz_P
      rw [decide_eq_false (by omega)]
      simp
    refine ⟨_, rfl, (LCP.rfl' μc).wi (Or.inl rfl), ?_, fun c _ q => ?_⟩
    · have := wz_sel_off (p := wz_P (decide (1 < z)) W f t) (i := 0) 10 (fun c _ _ => hP c)
      rw [Nat.zero_add] at this
      rw [wi_r, if_pos ⟨rfl, rfl⟩, this]
      rfl
    · rw [hP c] at q
      exact absurd q (by decide)
  rw [if_neg (fun q => h1 (hle.mp q)), if_pos (show (0 : Int32) ≤ nI f by rw [l_le (n := 0) (by omega) (by omega)]; omega), add_l 1]
  have hP : ∀ c, wz_P (decide (1 < z)) W f t c = (wz_w f t c && W.testBit c) := fun c => by
    unfold wz_P
    rw [decide_eq_true (by omega)]
    simp
  generalize wz_P (decide (1 < z)) W f t = P at hP ⊢
  have hoff : ∀ c, c ≤ f ∨ t < c → P c = false := fun c hc => by
    rw [hP]
    unfold wz_w
    rw [decide_eq_false (by omega)]
    rfl
  have hon : ∀ c, f < c → c ≤ t → P c = W.testBit c := fun c h1 h2 => by
    rw [hP]
    unfold wz_w
    rw [decide_eq_true ⟨h1, h2⟩]
    rfl
  obtain ⟨μ', l1, l2, l3, l4⟩ := lp_inv (f := fun s : Int32 × PM => lbX5_look_37 tx 12 (nI n) (nI f) (nI t) s.1 s.2)
    (fun s => ∃ k, f < k ∧ k ≤ t + 1 ∧ s.1 = nI k ∧ LCP μc s.2 ∧ s.2.1 399 1 = nI (nb_sel P k) ∧ ∀ c, c < k → P c = true → s.2.1 400 c = nI (a c)) (fun s => 11 - s.1.toNatClampNeg)
    (fun μ' => LCP μc μ' ∧ μ'.1 399 1 = nI (nb_sel P 10) ∧ ∀ c, c < 10 → P c = true → μ'.1 400 c = nI (a c))
    (fun s hI => by
      obtain ⟨s1, μ⟩ := s
      obtain ⟨k, k1, k2, k3, k4, k5, k6⟩ := hI
      have k3 : s1 = nI k := k3
      have k4 : LCP μc μ := k4
      have k5 : μ.1 399 1 = nI (nb_sel P k) := k5
      have k6 : ∀ c, c < k → P c = true → μ.1 400 c = nI (a c) := k6
      subst k3
      have e12 : μ.1 12 7 = nI W := by rw [k4.1 12 (by omega) (by omega) (by omega) (by omega)]; exact (v1_stones h.1.1).trans eW
      have hlt : nI t < nI k ↔ t < k := lt_n (by omega) (by omega)
      dsimp only
      unfold lbX5_look_37
      by_cases hk : t < k
      · right
        rw [if_pos (hlt.mpr hk)]
        have := wz_sel_off (p := P) (i := k) (10 - k) (fun c c1 c2 => hoff c (by omega))
        rw [show k + (10 - k) = 10 by omega] at this
        refine ⟨μ, rfl, k4, by rw [this]; exact k5, fun c c1 c2 => ?_⟩
        by_cases hc : c < k
        · exact k6 c hc c2
        · rw [hoff c (by omega)] at c2
          exact absurd c2 (by decide)
      left
      have hkk : P k = W.testBit k := hon k k1 (by omega)
      rw [if_neg (fun q => hk (hlt.mp q)), if_neg (show ¬ (10 : Int32) ≤ nI k by rw [l_le (n := 10) (by omega) (by omega)]; omega), e12, bitE, nb_has (by omega) (by omega), nb_01, add_l 1]
      by_cases hb : W.testBit k = true
      case neg =>
        rw [if_neg hb]
        refine ⟨_, rfl, ⟨k + 1, by omega, by omega, rfl, k4, ?_, fun c c1 c2 => ?_⟩, by dsimp only; rw [cl_n (show k < 2147483648 by omega), cl_n (show k + 1 < 2147483648 by omega)]; omega⟩
        · show μ.1 399 1 = nI (nb_sel P (k + 1))
          rw [k5]
          conv => rhs; unfold nb_sel
          rw [if_neg (by rw [hkk]; exact hb)]
        · by_cases hc : c = k
          · rw [hc, hkk] at c2
            exact absurd c2 hb
          · exact k6 c (by omega) c2
      rw [if_pos hb, k5, nb_set (by omega)]
      simp only [go_let]
      have hL : LCP μc (pm_wi μ 399 1 (nI (nb_sel P k ||| 2 ^ k))) := k4.wi (Or.inl rfl)
      obtain ⟨b1, b2, -⟩ := hB k (by omega)
      obtain ⟨μ4, b4, b5⟩ := b2 _ (RR_lp h hL (LM.rfl' μm)).1
      rw [b4, Option.bind_some, chk_n (show k < 10 by omega) (by omega), cl_n (show k < 2147483648 by omega)]
      dsimp only
      rw [l_sub (n := 10) (show 10 - a k ≤ 10 by omega), show 10 - (10 - a k) = a k by omega]
      have hL4 : LCP μc μ4 := hL.lc b5
      refine ⟨_, rfl, ⟨k + 1, by omega, by omega, rfl, hL4.wi (Or.inr rfl), ?_, fun c c1 c2 => ?_⟩, by dsimp only; rw [cl_n (show k + 1 < 2147483648 by omega)]; omega⟩
      · show (pm_wi μ4 400 k (nI (a k))).1 399 1 = nI (nb_sel P (k + 1))
        rw [wi_c (by decide), b5.1 399 (by omega) (by omega), wi_r, if_pos ⟨rfl, rfl⟩]
        conv => rhs; unfold nb_sel
        rw [if_pos (by rw [hkk]; exact hb)]
      · show (pm_wi μ4 400 k (nI (a k))).1 400 c = nI (a c)
        by_cases hc : c = k
        · rw [hc, wi_r, if_pos ⟨rfl, rfl⟩]
        · rw [wi_i hc, b5.1 400 (by omega) (by omega), wi_c (by decide)]
          exact k6 c (by omega) c2)
    go_fuel (nI (f + 1), pm_wi μc 399 1 0)
    ⟨f + 1, by omega, by omega, rfl, (LCP.rfl' μc).wi (Or.inl rfl), by
      have := wz_sel_off (p := P) (i := 0) (f + 1) (fun c c1 c2 => hoff c (by omega))
      rw [Nat.zero_add] at this
      dsimp only
      rw [wi_r, if_pos ⟨rfl, rfl⟩, this]
      rfl, fun c c1 c2 => by
      rw [hoff c (by omega)] at c2
      exact absurd c2 (by decide)⟩
    (by unfold go_fuel; dsimp only; omega)
  rw [l1]
  exact ⟨μ', rfl, l2, l3, l4⟩
theorem q_upper {μ : PM} {a : Nat → Nat} {R S : Nat} (hR : μ.1 399 1 = nI R) (hR2 : R < 1024) (ha : ∀ c, c < 10 → R.testBit c = true → μ.1 400 c = nI (a c)) (h10 : ∀ c, c < 10 → a c ≤ 10) :
    ∃ V, fX5_upperWithout μ (nI S) = some V ∧ V.toInt = ((wz_pr a (fun c => R.testBit c && !S.testBit c) 10 : Nat) : Int) := by
  have hK : R &&& (S ^^^ 4294967295) ≤ R := Nat.and_le_left
  obtain ⟨V, l1, l2⟩ := lp_inv (f := fun s : Int64 × Int32 => lbX5_upperWithout_5 μ (nI S) s.1 s.2)
    (fun s => ∃ k, k ≤ 10 ∧ s.2 = nI k ∧ s.1.toInt = ((wz_pr a (fun c => R.testBit c && !S.testBit c) k : Nat) : Int)) (fun s => 11 - s.2.toNatClampNeg)
    (fun V => V.toInt = ((wz_pr a (fun c => R.testBit c && !S.testBit c) 10 : Nat) : Int))
    (fun s hI => by
      obtain ⟨V, s2⟩ := s
      obtain ⟨k, k1, k2, k3⟩ := hI
      have k2 : s2 = nI k := k2
      have k3 : V.toInt = ((wz_pr a (fun c => R.testBit c && !S.testBit c) k : Nat) : Int) := k3
      subst k2
      have hle : (10 : Int32) ≤ nI k ↔ 10 ≤ k := l_le (n := 10) (by omega) (by omega)
      dsimp only
      unfold lbX5_upperWithout_5
      by_cases hk : 10 ≤ k
      · right
        have : k = 10 := by omega
        subst this
        rw [if_pos (hle.mpr hk)]
        exact ⟨V, rfl, k3⟩
      left
      rw [if_neg (fun q => hk (hle.mp q)), hR, show (-1 : Int32) = nI 4294967295 from rfl, nx_xor, nx_and, bitE, nb_has (by omega) (by omega), nb_01, wz_K (by omega), add_l 1]
      have hm : 11 - (nI (k + 1)).toNatClampNeg < 11 - (nI k).toNatClampNeg := by rw [cl_n (show k < 2147483648 by omega), cl_n (show k + 1 < 2147483648 by omega)]; omega
      have hle2 := wz_pr_le (p := fun c => R.testBit c && !S.testBit c) h10 (k + 1) (by omega)
      have hpw : 10 ^ (k + 1) ≤ 10 ^ 10 := Nat.pow_le_pow_right (by decide) (by omega)
      by_cases hb : (R.testBit k && !S.testBit k) = true
      · have eN : wz_pr a (fun c => R.testBit c && !S.testBit c) (k + 1) = wz_pr a (fun c => R.testBit c && !S.testBit c) k * a k := by
          conv => lhs; unfold wz_pr
          exact if_pos hb
        rw [eN] at hle2
        rw [if_pos hb, chk_n (show k < 10 by omega) (by omega)]
        simp only [go_let]
        rw [cl_n (show k < 2147483648 by omega), ha k (by omega) (Bool.and_eq_true_iff.mp hb).1]
        have h10k := h10 k (by omega)
        refine ⟨_, rfl, ⟨k + 1, by omega, rfl, ?_⟩, by dsimp only; rw [cl_n (show k + 1 < 2147483648 by omega)]; omega⟩
        rw [eN]
        exact lN_mul2 k3 (by rw [il, ti_n (by omega)]) (by omega)
      · have eN : wz_pr a (fun c => R.testBit c && !S.testBit c) (k + 1) = wz_pr a (fun c => R.testBit c && !S.testBit c) k := by
          conv => lhs; unfold wz_pr
          exact if_neg hb
        rw [if_neg hb]
        refine ⟨_, rfl, ⟨k + 1, by omega, rfl, ?_⟩, hm⟩
        rw [eN]
        exact k3)
    go_fuel (1, 0) ⟨0, by omega, rfl, show (1 : Int64).toInt = ((1 : Nat) : Int) by decide⟩ (by unfold go_fuel; dsimp only; omega)
  unfold fX5_upperWithout
  rw [l1]
  exact ⟨V, rfl, l2⟩
theorem lp_low (μ : PM) (a0 : Int32) : ∀ j A x fuel, Int64.toInt A = (x : Nat) → j ≤ 10 → x * 10 ^ j ≤ 100000000000 → j < fuel → ∃ B, lp (fun s : Int64 × Int32 => lbX5_lowerWithout_15 μ a0 s.1 s.2) fuel (A, nI j) = some B ∧ B.toInt = ((x * 10 ^ j : Nat) : Int) := by
  intro j
  induction j with
  | zero =>
    intro A x fuel hA h10 hx hf
    obtain ⟨k, rfl⟩ : ∃ k, fuel = k + 1 := ⟨fuel - 1, by omega⟩
    refine ⟨A, lp_e ?_, by rw [hA]; simp⟩
    show lbX5_lowerWithout_15 μ a0 A (nI 0) = _
    unfold lbX5_lowerWithout_15
    rw [if_pos (by decide)]
  | succ j ih =>
    intro A x fuel hA h10 hx hf
    obtain ⟨k, rfl⟩ : ∃ k, fuel = k + 1 := ⟨fuel - 1, by omega⟩
    have hp : 1 ≤ 10 ^ j := Nat.one_le_pow _ _ (by decide)
    have hx2 : x * 10 * 10 ^ j ≤ 100000000000 := by
      rw [Nat.pow_succ] at hx
      rw [Nat.mul_assoc, Nat.mul_comm 10]
      exact hx
    have hx3 : x * 10 ≤ 100000000000 := Nat.le_trans (Nat.le_mul_of_pos_right _ hp) hx2
    have hs : lbX5_lowerWithout_15 μ a0 A (nI (j + 1)) = some (.inl (A * 10, nI j)) := by
      unfold lbX5_lowerWithout_15
      rw [if_neg (show ¬ nI (j + 1) ≤ 0 by rw [le_l (n := 0) (by omega) (by omega)]; omega), addm1 (by omega)]
      rfl
    obtain ⟨B, b1, b2⟩ := ih (A * 10) (x * 10) k (lN_mul10 hA (by omega)) (by omega) hx2 (by omega)
    refine ⟨B, by rw [lp_l (s' := (A * 10, nI j)) hs]; exact b1, ?_⟩
    rw [b2, Nat.pow_succ, Nat.mul_assoc, Nat.mul_comm 10]
theorem q_lower {μ : PM} {R S : Nat} (hR : μ.1 399 1 = nI R) (hR2 : R < 1024) :
    ∃ V, fX5_lowerWithout μ (nI S) = some V ∧ V.toInt = ((10 ^ wz_cnt (fun c => R.testBit c && !S.testBit c) 10 : Nat) : Int) ∧ wz_cnt (fun c => R.testBit c && !S.testBit c) 10 ≤ 10 := by
  have hK : R &&& (S ^^^ 4294967295) ≤ R := Nat.and_le_left
  obtain ⟨e1, e2⟩ := wz_bc (R &&& (S ^^^ 4294967295)) (by omega)
  have e3 : wz_n (R &&& (S ^^^ 4294967295)) = wz_cnt (fun c => R.testBit c && !S.testBit c) 10 := wz_cnt_eq 10 (fun c hc => wz_K hc)
  rw [e3] at e1 e2
  have hpw : 10 ^ wz_cnt (fun c => R.testBit c && !S.testBit c) 10 ≤ 10 ^ 10 := Nat.pow_le_pow_right (by decide) e2
  unfold fX5_lowerWithout
  simp only [go_let]
  rw [hR, show (-1 : Int32) = nI 4294967295 from rfl, nx_xor, nx_and, e1]
  obtain ⟨B, b1, b2⟩ := lp_low μ (nI S) _ 1 1 go_fuel (by decide) e2 (by rw [Nat.one_mul]; omega) (by unfold go_fuel; omega)
  rw [b1]
  exact ⟨B, rfl, by rw [b2, Nat.one_mul], e2⟩
