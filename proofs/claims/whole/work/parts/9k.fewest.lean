/-! ===== the fewest that clear a stream ===== -/
theorem nI_wrap (k : Nat) : nI (k + 4294967296) = nI k := by
  apply Int32.toBitVec_inj.1
  show BitVec.ofNat 32 (k + 4294967296) = BitVec.ofNat 32 k
  apply BitVec.eq_of_toNat_eq
  simp
theorem nI_subw {z R : Nat} (h : R < 4294967296) : nI z - nI R = nI (z + 4294967296 - R) := by
  rw [← nI_wrap z, nI_subI (by omega)]
def wz_q (R s : Nat) (c : Nat) : Bool := R.testBit c && !s.testBit c
def wz_ok (a : Nat → Nat) (R p s : Nat) : Prop := p * 10 ^ wz_cnt (wz_q R s) 10 ≤ 10 * wz_pr a (wz_q R s) 10
theorem ok_full {a : Nat → Nat} {R p s : Nat} (hp : p ≤ 10) (h : ∀ c, c < 10 → R.testBit c = true → s.testBit c = true) : wz_ok a R p s := by
  have e : ∀ c, c < 10 → wz_q R s c = (fun _ => false) c := fun c hc => by
    unfold wz_q
    cases hr : R.testBit c
    · rfl
    · rw [h c hc hr]
      rfl
  unfold wz_ok
  rw [wz_cnt_eq 10 e, wz_pr_eq 10 e]
  show p * 10 ^ 0 ≤ 10 * 1
  omega
theorem ok_and {a : Nat → Nat} {R p s : Nat} (h : wz_ok a R p s) : wz_ok a R p (s &&& R) := by
  have e : ∀ c, c < 10 → wz_q R (s &&& R) c = wz_q R s c := fun c _ => by
    unfold wz_q
    rw [Nat.testBit_and]
    cases R.testBit c <;> cases s.testBit c <;> rfl
  unfold wz_ok at h ⊢
  rw [wz_cnt_eq 10 e, wz_pr_eq 10 e]
  exact h
theorem wz_subc {i W : Nat} (hi : i < 1024) : i &&& (W ^^^ 4294967295) = 0 ↔ i &&& W = i := by
  have l1 : i &&& W ≤ i := Nat.and_le_left
  have l2 : i &&& (W ^^^ 4294967295) ≤ i := Nat.and_le_left
  constructor
  · intro h
    refine wz_ext (by omega) hi (fun c hc => ?_)
    have k := wz_K (R := i) (S := W) hc
    rw [h, Nat.zero_testBit] at k
    rw [Nat.testBit_and]
    cases h1 : i.testBit c <;> cases h2 : W.testBit c <;> rw [h1, h2] at k <;> first | rfl | exact absurd k (by decide)
  · intro h
    refine wz_ext (by omega) (by omega) (fun c hc => ?_)
    rw [wz_K hc, Nat.zero_testBit]
    cases h1 : i.testBit c
    · rfl
    · rw [wz_sub h h1]
      rfl
theorem q_fewest {μ : PM} {a : Nat → Nat} {R p : Nat} (hR : μ.1 399 1 = nI R) (hR2 : R < 1024) (ha : ∀ c, c < 10 → R.testBit c = true → μ.1 400 c = nI (a c)) (h10 : ∀ c, c < 10 → a c ≤ 10) (hp : p ≤ 10) :
    ∃ r, fX5_fewestToClear μ (nI p) = some (nI r) ∧ BEST (wz_ok a R p) R r := by
  obtain ⟨x, l1, r, l2, l3⟩ := lp_inv (f := fun s : Int32 × Int32 × Int32 => lbX5_fewestToClear_10 μ (nI p) s.1 s.2.1 s.2.2)
    (fun s => ∃ r z k, s.1 = nI r ∧ s.2.1 = nI z ∧ s.2.2 = nI k ∧ z &&& R = z ∧ k ≤ z ∧ r &&& R = r ∧ wz_ok a R p r ∧ (r < z ∨ r = R) ∧ ∀ s, s &&& R = s → s < z → wz_ok a R p s → wz_n r < wz_n s ∨ (wz_n r = wz_n s ∧ r ≤ s)) (fun s => 1024 - s.2.1.toNatClampNeg)
    (fun x => ∃ r, x = nI r ∧ BEST (wz_ok a R p) R r)
    (fun s hI => by
      obtain ⟨s1, s2, s3⟩ := s
      obtain ⟨r, z, k, e1, e2, e3, k1, k2, k3, k4, k5, k6⟩ := hI
      have e1 : s1 = nI r := e1
      have e2 : s2 = nI z := e2
      have e3 : s3 = nI k := e3
      subst e1 e2 e3
      have zR : z ≤ R := by rw [← k1]; exact Nat.and_le_right
      have rR : r ≤ R := by rw [← k3]; exact Nat.and_le_right
      have hzR : nI z = nI R ↔ z = R := nI_eq (by omega) (by omega)
      dsimp only
      unfold lbX5_fewestToClear_10
      rw [if_neg (show ¬ (1024 : Int32) ≤ nI k by rw [l_le (n := 1024) (by omega) (by omega)]; omega), hR]
      by_cases hz : z = R
      · right
        rw [if_pos (hzR.mpr hz)]
        refine ⟨_, rfl, r, rfl, k3, k4, fun s q1 q2 => ?_⟩
        have sR : s ≤ R := by rw [← q1]; exact Nat.and_le_right
        by_cases hs : s = R
        · have := wz_n_le k3
          rw [hs]
          omega
        · exact k6 s q1 (by omega) q2
      left
      rw [if_neg (fun q => hz (hzR.mp q)), (wz_bc r (by omega)).1, (wz_bc z (by omega)).1]
      have br := (wz_bc r (by omega)).2
      have bz := (wz_bc z (by omega)).2
      have hle : nI (wz_n r) ≤ nI (wz_n z) ↔ wz_n r ≤ wz_n z := le_n (by omega) (by omega)
      have st := nx_step 32 R z R (by omega) k1 (Nat.and_self R) (by omega)
      have st2 : ∀ s, s &&& R = s → s < (z + 2 ^ 32 - R) &&& R → s ≤ z := fun s q1 q2 => by
        rcases Nat.lt_or_ge z s with q3 | q3
        · have := (nx_step 32 R z s (by omega) k1 q1 q3).2
          omega
        · exact q3
      have st3 : ((z + 2 ^ 32 - R) &&& R) &&& R = (z + 2 ^ 32 - R) &&& R := by rw [Nat.and_assoc, Nat.and_self]
      have ew : (nI z - nI R) &&& nI R = nI ((z + 2 ^ 32 - R) &&& R) := by rw [nI_subw (by omega), nx_and]
      have fin : ∀ r', r' &&& R = r' → wz_ok a R p r' → (r' ≤ z ∨ r' = R) → (∀ s, s &&& R = s → s ≤ z → wz_ok a R p s → wz_n r' < wz_n s ∨ (wz_n r' = wz_n s ∧ r' ≤ s)) → ∃ s' : Int32 × Int32 × Int32, jjX5_fewestToClear_72_10 μ (nI p) (nI r') (nI z) (nI k) = some (.inl s') ∧ (∃ r z k, s'.1 = nI r ∧ s'.2.1 = nI z ∧ s'.2.2 = nI k ∧ z &&& R = z ∧ k ≤ z ∧ r &&& R = r ∧ wz_ok a R p r ∧ (r < z ∨ r = R) ∧ ∀ s, s &&& R = s → s < z → wz_ok a R p s → wz_n r < wz_n s ∨ (wz_n r = wz_n s ∧ r ≤ s)) ∧ 1024 - s'.2.1.toNatClampNeg < 1024 - (nI z).toNatClampNeg := by
        intro r' q1 q2 q3 q4
        generalize hZ : (z + 2 ^ 32 - R) &&& R = Z at st st2 st3 ew
        unfold jjX5_fewestToClear_72_10
        simp only [go_let]
        rw [hR, ew, add_l 1]
        refine ⟨_, rfl, ⟨r', Z, k + 1, rfl, rfl, rfl, st3, by omega, q1, q2, by omega, fun s j1 j2 j3 => q4 s j1 (st2 s j1 j2) j3⟩, ?_⟩
        dsimp only
        rw [cl_n (show Z < 2147483648 by omega), cl_n (show z < 2147483648 by omega)]
        omega
      unfold jjX5_fewestToClear_42_10
      by_cases hn : wz_n r ≤ wz_n z
      · rw [if_pos (hle.mpr hn), if_pos rfl]
        refine fin r k3 k4 (by omega) (fun s q1 q2 q3 => ?_)
        by_cases hs : s = z
        · rw [hs]
          rcases k5 with k5 | k5
          · omega
          · rw [k5] at hn
            exact absurd (wz_sub_eq (by omega) hR2 k1 hn) hz
        · exact k6 s q1 (by omega) q3
      rw [if_neg (fun q => hn (hle.mp q)), if_neg (show ¬ (1 : Int32) = 0 by decide)]
      obtain ⟨U, u1, u2⟩ := q_upper (S := z) hR hR2 ha h10
      obtain ⟨L, v1, v2, v3⟩ := q_lower (S := z) hR hR2
      have u2 : U.toInt = ((wz_pr a (wz_q R z) 10 : Nat) : Int) := u2
      have v2 : L.toInt = ((10 ^ wz_cnt (wz_q R z) 10 : Nat) : Int) := v2
      have v3 : wz_cnt (wz_q R z) 10 ≤ 10 := v3
      have hUle := wz_pr_le (p := wz_q R z) h10 10 (by omega)
      have hLle : 10 ^ wz_cnt (wz_q R z) 10 ≤ 10 ^ 10 := Nat.pow_le_pow_right (by decide) v3
      have hLp : 10 ^ wz_cnt (wz_q R z) 10 * p ≤ 10 ^ 10 * 10 := Nat.mul_le_mul hLle hp
      have c1 := lN_mul10 u2 (by omega)
      have c2 : (L * (nI p).toInt64).toInt = ((10 ^ wz_cnt (wz_q R z) 10 * p : Nat) : Int) := lN_mul2 v2 (by rw [il, ti_n (by omega)]) (by omega)
      rw [u1, Option.bind_some, v1, Option.bind_some]
      have hc : lg_cmp (U * 10) (L * (nI p).toInt64) < 0 ↔ ¬ wz_ok a R p z := by
        unfold wz_ok
        rw [lc_lt, c1, c2, Nat.mul_comm p, Nat.mul_comm 10 (wz_pr a (wz_q R z) 10)]
        generalize wz_pr a (wz_q R z) 10 * 10 = A
        generalize 10 ^ wz_cnt (wz_q R z) 10 * p = B
        omega
      by_cases ho : wz_ok a R p z
      · rw [if_neg (fun q => (hc.mp q) ho)]
        refine fin z k1 ho (by omega) (fun s q1 q2 q3 => ?_)
        by_cases hs : s = z
        · rw [hs]
          omega
        · have := k6 s q1 (by omega) q3
          omega
      · rw [if_pos (hc.mpr ho)]
        refine fin r k3 k4 (by omega) (fun s q1 q2 q3 => ?_)
        by_cases hs : s = z
        · rw [hs] at q3
          exact absurd q3 ho
        · exact k6 s q1 (by omega) q3)
    go_fuel (nI R, nI 0, nI 0)
    ⟨R, 0, 0, rfl, rfl, rfl, Nat.zero_and R, by omega, Nat.and_self R, ok_full hp (fun _ _ q => q), Or.inr rfl, fun s _ q _ => absurd q (by omega)⟩
    (by unfold go_fuel; dsimp only; omega)
  unfold fX5_fewestToClear
  have l1 : lp (fun s : Int32 × Int32 × Int32 => lbX5_fewestToClear_10 μ (nI p) s.1 s.2.1 s.2.2) go_fuel (nI R, 0, 0) = some x := l1
  rw [hR, l1, l2]
  exact ⟨r, rfl, l3⟩
