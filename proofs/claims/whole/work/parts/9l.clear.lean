/-! ===== clear ===== -/
theorem wz_dec {i : Nat} (hi : i < 1024) : (nI i + (-1)).toInt = (i : Int) - 1 := by
  by_cases h : i = 0
  · subst h
    decide
  · rw [addm1 (by omega), ti_n (by omega)]
    omega
theorem wz_subz {i W : Nat} (hi : i < 1024) : nI (i &&& (W ^^^ 4294967295)) = 0 ↔ i &&& W = i := by
  have l2 : i &&& (W ^^^ 4294967295) ≤ i := Nat.and_le_left
  have l3 : i &&& (W ^^^ 4294967295) < 2147483648 := Nat.lt_of_le_of_lt l2 (by omega)
  rw [eq_l (n := 0) l3 (by omega), wz_subc hi]
theorem q_clearM {μm : PM} {tx : Option Nat} {n f t z W p : Nat} {a : Nat → Nat} (hB : BK tx μm n a) (hn : n < 6) (hft : f ≤ t) (ht : t < 10) (eW : μm.1 402 10 = nI W) (hW : W < 1024) (ez : μm.1 402 (13 + 2 * n) = nI z) (hz : z ≤ 5) (hp : p ≤ 10) :
    ∃ r μ', lp (fun s : Int32 × Int32 × PM => lbX12_clear_41 (nI n) (nI f) (nI t) (nI p) s.1 s.2.1 s.2.2) go_fuel (nI W, nI W, μm) = some (nI r, μ') ∧ BEST (wz_ok a (nb_sel (wz_P (decide (1 < z)) W f t) 10) p) W r ∧ LM μm μ' := by
  have h10 : ∀ c, c < 10 → a c ≤ 10 := fun c hc => (hB c hc).1
  have hRW : ∀ c, c < 10 → (nb_sel (wz_P (decide (1 < z)) W f t) 10).testBit c = true → W.testBit c = true := fun c _ q => by
    rw [wz_tb] at q
    have q := (Bool.and_eq_true_iff.mp q).2
    unfold wz_P at q
    exact (Bool.and_eq_true_iff.mp (Bool.and_eq_true_iff.mp q).2).1
  have hG : ∀ T, ∃ d, wz_rp a (wz_w f t) (fun c => (W &&& (T ^^^ 4294967295)).testBit c && decide (1 < z)) 10 = wz_pr a (wz_q (nb_sel (wz_P (decide (1 < z)) W f t) 10) T) 10 * 10 ^ d ∧ 10 ^ (t - f) = 10 ^ wz_cnt (wz_q (nb_sel (wz_P (decide (1 < z)) W f t) 10) T) 10 * 10 ^ d ∧ wz_cnt (wz_q (nb_sel (wz_P (decide (1 < z)) W f t) 10) T) 10 ≤ 10 := fun T => wz_G hft ht (fun c hc => wz_bT hc)
  generalize nb_sel (wz_P (decide (1 < z)) W f t) 10 = R at hRW hG ⊢
  obtain ⟨x, l1, r, l2, l3, l4⟩ := lp_inv (f := fun s : Int32 × Int32 × PM => lbX12_clear_41 (nI n) (nI f) (nI t) (nI p) s.1 s.2.1 s.2.2)
    (fun s => ∃ r j : Nat, s.1 = nI r ∧ s.2.1.toInt = (j : Int) - 1 ∧ j ≤ 1024 ∧ r &&& W = r ∧ wz_ok a R p r ∧ (j ≤ r ∨ r = W) ∧ j ≤ W + 1 ∧ (∀ s, s &&& W = s → j ≤ s → wz_ok a R p s → wz_n r < wz_n s ∨ (wz_n r = wz_n s ∧ r ≤ s)) ∧ LM μm s.2.2) (fun s => (s.2.1.toInt + 1).toNat)
    (fun x => ∃ r, x.1 = nI r ∧ BEST (wz_ok a R p) W r ∧ LM μm x.2)
    (fun s hI => by
      obtain ⟨s1, s2, μ⟩ := s
      obtain ⟨r, j, e1, e2, k1, k2, k3, k4, k5, k6, k7⟩ := hI
      have e1 : s1 = nI r := e1
      have e2 : s2.toInt = (j : Int) - 1 := e2
      have k7 : LM μm μ := k7
      subst e1
      have rW : r ≤ W := by rw [← k2]; exact Nat.and_le_right
      have e402 : μ.1 402 = μm.1 402 := k7 402 (by omega) (by omega)
      have t0 : (0 : Int32).toInt = 0 := rfl
      dsimp only
      unfold lbX12_clear_41
      by_cases hj : j = 0
      · right
        rw [if_pos (show s2 < 0 by rw [i_lt, t0]; omega)]
        exact ⟨_, rfl, r, rfl, ⟨k2, k3, fun s q1 q2 => k6 s q1 (by omega) q2⟩, k7⟩
      left
      rw [if_neg (show ¬ s2 < 0 by rw [i_lt, t0]; omega)]
      obtain ⟨i, rfl⟩ : ∃ i, j = i + 1 := ⟨j - 1, by omega⟩
      have es : s2 = nI i := i_eq.mpr (by rw [e2, ti_n (by omega)]; omega)
      subst es
      clear e2
      have hi1 : i < 1024 := by omega
      have fin : ∀ r' μ', r' &&& W = r' → wz_ok a R p r' → (i ≤ r' ∨ r' = W) → (∀ s, s &&& W = s → i ≤ s → wz_ok a R p s → wz_n r' < wz_n s ∨ (wz_n r' = wz_n s ∧ r' ≤ s)) → LM μm μ' → ∃ s' : Int32 × Int32 × PM, (some (.inl (nI r', nI i + (-1), μ')) : Option ((Int32 × Int32 × PM) ⊕ (Int32 × PM))) = some (.inl s') ∧ (∃ r j : Nat, s'.1 = nI r ∧ s'.2.1.toInt = (j : Int) - 1 ∧ j ≤ 1024 ∧ r &&& W = r ∧ wz_ok a R p r ∧ (j ≤ r ∨ r = W) ∧ j ≤ W + 1 ∧ (∀ s, s &&& W = s → j ≤ s → wz_ok a R p s → wz_n r < wz_n s ∨ (wz_n r = wz_n s ∧ r ≤ s)) ∧ LM μm s'.2.2) ∧ (s'.2.1.toInt + 1).toNat < ((nI i).toInt + 1).toNat := by
        intro r' μ' q1 q2 q3 q4 q5
        refine ⟨_, rfl, ⟨r', i, rfl, wz_dec hi1, Nat.le_of_lt hi1, q1, q2, q3, by omega, q4, q5⟩, ?_⟩
        dsimp only
        rw [wz_dec hi1, ti_n (Nat.lt_trans hi1 (by decide))]
        omega
      rw [e402, eW, show (-1 : Int32) = nI 4294967295 from rfl, nx_xor, nx_and]
      have hsub : nI (i &&& (W ^^^ 4294967295)) = 0 ↔ i &&& W = i := wz_subz hi1
      by_cases hs : i &&& W = i
      case neg =>
        rw [if_neg (fun q => hs (hsub.mp q))]
        refine fin r μ k2 k3 (by omega) (fun s q1 q2 q3 => ?_) k7
        by_cases e : s = i
        · rw [e] at q1
          exact absurd q1 hs
        · exact k6 s q1 (by omega) q3
      have br := (wz_bc r (by omega)).2
      have bi := (wz_bc i (by omega)).2
      have hle : nI (wz_n i) ≤ nI (wz_n r) ↔ wz_n i ≤ wz_n r := le_n (by omega) (by omega)
      rw [if_pos (hsub.mpr hs), (q_bits i (by omega)).1, Option.bind_some, (q_bits r (by omega)).1, Option.bind_some, (wz_bc r (by omega)).1, (wz_bc i (by omega)).1]
      by_cases hn' : wz_n i ≤ wz_n r
      case neg =>
        rw [if_neg (fun q => hn' (hle.mp q))]
        refine fin r μ k2 k3 (by omega) (fun s q1 q2 q3 => ?_) k7
        by_cases e : s = i
        · rw [e]
          omega
        · exact k6 s q1 (by omega) q3
      rw [if_pos (hle.mpr hn'), nx_xor, nx_and]
      have hSW : W &&& (i ^^^ 4294967295) ≤ W := Nat.and_le_left
      obtain ⟨V, μ2, w1, w2, w3⟩ := q_wholeM (S := W &&& (i ^^^ 4294967295)) hB hn hft ht ez hz (by omega) k7
      obtain ⟨Q, t1, t2⟩ := q_tensM (n := t - f) (by omega)
      obtain ⟨d, d1, d2, d3⟩ := hG i
      have hVle := wz_rp_le (w := wz_w f t) (p := fun c => (W &&& (i ^^^ 4294967295)).testBit c && decide (1 < z)) h10 10 (by omega)
      have hQle : 10 ^ (t - f) ≤ 10 ^ 10 := Nat.pow_le_pow_right (by decide) (by omega)
      have hdpos : 0 < 10 ^ d := Nat.pow_pos (by decide)
      have hpQ : p * 10 ^ (t - f) ≤ 10 * 10 ^ 10 := Nat.mul_le_mul hp hQle
      have c1 := wz_lit w2 (by omega)
      have c2 : ((nI p).toInt64 * Q).toInt = ((p * 10 ^ (t - f) : Nat) : Int) := lN_mul2 (by rw [il, ti_n (by omega)]) t2 (by omega)
      have hc : lg_cmp (10 * V) ((nI p).toInt64 * Q) < 0 ↔ ¬ wz_ok a R p i := by
        unfold wz_ok
        rw [lc_lt, c1, c2, d1, d2, ← Nat.mul_assoc, ← Nat.mul_assoc, ← Nat.mul_le_mul_right_iff hdpos]
        generalize 10 * wz_pr a (wz_q R i) 10 * 10 ^ d = A
        generalize p * 10 ^ wz_cnt (wz_q R i) 10 * 10 ^ d = B
        omega
      rw [w1, Option.bind_some, nI_subI hft, t1, Option.bind_some]
      dsimp only
      by_cases ho : wz_ok a R p i
      · rw [if_neg (fun q => (hc.mp q) ho)]
        refine fin i μ2 hs ho (by omega) (fun s q1 q2 q3 => ?_) w3
        by_cases e : s = i
        · rw [e]
          omega
        · have := k6 s q1 (by omega) q3
          omega
      · rw [if_pos (hc.mpr ho)]
        refine fin r μ2 k2 k3 (by omega) (fun s q1 q2 q3 => ?_) w3
        by_cases e : s = i
        · rw [e] at q3
          exact absurd q3 ho
        · exact k6 s q1 (by omega) q3)
    go_fuel (nI W, nI W, μm)
    ⟨W, W + 1, rfl, by dsimp only; rw [ti_n (by omega)]; omega, by omega, Nat.and_self W, ok_full hp hRW, Or.inr rfl, by omega, fun s q1 q2 _ => by
      have : s ≤ W := by rw [← q1]; exact Nat.and_le_right
      omega, LM.rfl' μm⟩
    (by dsimp only; rw [ti_n (by omega)]; unfold go_fuel; omega)
  obtain ⟨x1, x2⟩ := x
  have l2 : x1 = nI r := l2
  exact ⟨r, x2, by rw [l1, l2], l3, l4⟩
theorem c_clear (n f t w : Int32) : BOTH (fun μ => fX11_clear μ n f t w) (fun μ => fX12_clear μ n f t w) := by
  intro μc μm h
  have hO := h.1.2.2.2.1
  have hnb := ob_names hO
  have t1 : (1 : Int32).toInt = 1 := rfl
  have t10' : (10 : Int32).toInt = 10 := rfl
  dsimp only
  unfold fX11_clear fX12_clear
  rw [q_nameC h.1.1 hO, q_ite, q_wayC, q_ite, q_stream hO, q_ite, q_isIn, q_ite]
  by_cases h0 : 0 ≤ n.toInt ∧ n.toInt < (μm.1 402 0).toInt
  case neg =>
    rw [if_neg h0, if_neg (fun q => h0 q.1)]
    exact ⟨-1, μc, μm, rfl, rfl, h, FrC.rfl' _, FrM.rfl' _⟩
  by_cases h1 : (0 ≤ f.toInt ∧ f.toInt ≤ 9) ∧ (0 ≤ t.toInt ∧ t.toInt ≤ 9) ∧ f.toInt ≤ t.toInt
  case neg =>
    rw [if_pos h0, if_neg h1, if_neg (fun q => h1 q.2)]
    exact ⟨-1, μc, μm, rfl, rfl, h, FrC.rfl' _, FrM.rfl' _⟩
  rw [if_pos h0, if_pos h1, if_pos (show (0 ≤ n.toInt ∧ n.toInt < (μm.1 402 0).toInt) ∧ (0 ≤ f.toInt ∧ f.toInt ≤ 9) ∧ (0 ≤ t.toInt ∧ t.toInt ≤ 9) ∧ f.toInt ≤ t.toInt from ⟨h0, h1⟩)]
  have hl1 : w < 1 ↔ w.toInt < 1 := by rw [i_lt, t1]
  have hl2 : w ≤ 10 ↔ w.toInt ≤ 10 := by rw [i_le, t10']
  by_cases hw : 1 ≤ w.toInt ∧ w.toInt ≤ 10
  case neg =>
    rw [if_neg (show ¬ ((1 : Int32).toInt ≤ w.toInt ∧ w.toInt ≤ (10 : Int32).toInt) by rw [t1, t10']; exact hw)]
    refine ⟨-1, μc, μm, ?_, rfl, h, FrC.rfl' _, FrM.rfl' _⟩
    by_cases q : w < 1
    · rw [if_pos q]
    · rw [if_neg q, if_neg (fun q2 => hw ⟨by have := mt hl1.mpr q; omega, hl2.mp q2⟩)]
  rw [if_pos (show (1 : Int32).toInt ≤ w.toInt ∧ w.toInt ≤ (10 : Int32).toInt by rw [t1, t10']; exact hw), if_neg (fun q => by have := hl1.mp q; omega), if_pos (hl2.mpr hw.2)]
  obtain ⟨i, rfl, hi, -⟩ := nz_of (v := n) (k := 6) h0.1 (by omega)
  obtain ⟨x, rfl, hx, hx2⟩ := nz_of (v := f) (k := 10) h1.1.1 (by omega)
  obtain ⟨y, rfl, hy, hy2⟩ := nz_of (v := t) (k := 10) h1.2.1.1 (by omega)
  obtain ⟨p, rfl, hp, -⟩ := nz_of (v := w) (k := 11) (by omega) (by omega)
  have hxy : x ≤ y := by omega
  have hi6 : i < 6 := by omega
  have hstb := ob_stones hO
  have hszb := ob_size hO hi6
  obtain ⟨W, eW, hW, -⟩ := nz_of (v := μm.1 402 10) (k := 1024) hstb.1 (by omega)
  obtain ⟨z, ez, hz, -⟩ := nz_of (v := μm.1 402 (13 + 2 * i)) (k := 6) hszb.1 (by omega)
  obtain ⟨tx, f1, hT⟩ := ph_find (RR_ph h)
  obtain ⟨a, hB⟩ := BK_ex h hi6 hT
  have h10 : ∀ c, c < 10 → a c ≤ 10 := fun c hc => (hB c hc).1
  obtain ⟨μ1, l1, l2, l3, l4⟩ := q_look h hB hi6 hxy (by omega) eW (by omega) ez (by omega)
  have hR2 := nb_sel_lt (wz_P (decide (1 < z)) W x y) 10
  have l4 : ∀ c, c < 10 → (nb_sel (wz_P (decide (1 < z)) W x y) 10).testBit c = true → μ1.1 400 c = nI (a c) := fun c hc q => l4 c hc (by
    rw [wz_tb] at q
    exact (Bool.and_eq_true_iff.mp q).2)
  obtain ⟨r, u1, u2⟩ := q_fewest (p := p) l3 (by omega) l4 h10 (by omega)
  obtain ⟨r', μ2, w1, w2, w3⟩ := q_clearM (p := p) hB hi6 hxy (by omega) eW (by omega) ez (by omega) (by omega)
  have hRW : nb_sel (wz_P (decide (1 < z)) W x y) 10 &&& W = nb_sel (wz_P (decide (1 < z)) W x y) 10 := by
    have := @Nat.and_le_left (nb_sel (wz_P (decide (1 < z)) W x y) 10) W
    refine wz_ext (by omega) (by omega) (fun c hc => ?_)
    rw [Nat.testBit_and, wz_tb]
    unfold wz_P
    cases wz_w x y c <;> cases W.testBit c <;> cases decide (1 < z) <;> cases decide (c < 10) <;> rfl
  have er : r' = r := best_eq (by omega) hRW (fun s _ q => ok_and q) w2 u2
  rw [f1, Option.bind_some, l1, Option.bind_some, u1, Option.bind_some, eW, w1, er]
  exact ⟨nI r, μ1, μ2, rfl, rfl, RR_lp h l2 w3⟩
