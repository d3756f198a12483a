/-! ===== a clause of the class ===== -/
def CG (tx : Nat) (μ μ' : PM) : Prop := (∀ c, c ≠ 372 → c < tx ∨ tx + 6 < c → μ'.1 c = μ.1 c) ∧ μ'.2 = μ.2
theorem CG.rfl' (tx : Nat) (μ : PM) : CG tx μ μ := ⟨fun _ _ _ => rfl, rfl⟩
theorem CG.tr {tx : Nat} {a b c : PM} (h : CG tx a b) (h2 : CG tx b c) : CG tx a c := ⟨fun x k1 k2 => (h2.1 x k1 k2).trans (h.1 x k1 k2), h2.2.trans h.2⟩
theorem CF.cg {tx : Nat} {μ μ' : PM} (h : CF tx μ μ') : CG tx μ μ' := ⟨fun c k1 k2 => h.1 c k1 (by omega) (by omega) (by omega), h.2.2.2⟩
theorem CG.wi {tx c i : Nat} {v : Int32} {μ μ' : PM} (h : CG tx μ μ') (hc : c = 372 ∨ (tx ≤ c ∧ c ≤ tx + 6)) : CG tx μ (pm_wi μ' c i v) := ⟨fun c' k1 k2 => (wi_c (by omega)).trans (h.1 c' k1 k2), h.2⟩
section CC8
variable {b : Nat → Nat} {n m tx : Nat}
theorem TKC_cg {μ μ' : PM} (h : TKC μ b n m) (hF : CG tx μ μ') (htx : 343 ≤ tx ∧ tx ≤ 364) : TKC μ' b n m := by
  obtain ⟨k1, k2, k3, k4, k5⟩ := h
  refine ⟨k1, k2, k3, fun j hj => ?_, fun j hj ht => ?_⟩
  · rw [hF.1 373 (by omega) (by omega), hF.1 374 (by omega) (by omega)]
    exact k4 j hj
  · rw [hF.1 375 (by omega) (by omega)]
    exact k5 j hj ht
/-- a clause is put down -/
theorem add_q {μ : PM} {N : Nat} (htx : 343 ≤ tx ∧ tx ≤ 364) (hN : μ.1 tx 6 = nI N) (hN24 : N < 24) (v1 v2 v3 : Int32) : ∃ μ', fX8_addClause μ tx v1 v2 v3 = some μ' ∧ CG tx μ μ' ∧ μ'.1 372 = μ.1 372 ∧ (∀ j, j ≠ 6 → μ'.1 tx j = μ.1 tx j) ∧ μ'.1 tx 6 = nI (N + 1) ∧ μ'.1 (tx + 1) N = v1 ∧ μ'.1 (tx + 2) N = v2 ∧ μ'.1 (tx + 3) N = v3 ∧ (∀ k, k ≠ N → μ'.1 (tx + 1) k = μ.1 (tx + 1) k ∧ μ'.1 (tx + 2) k = μ.1 (tx + 2) k ∧ μ'.1 (tx + 3) k = μ.1 (tx + 3) k) ∧ μ'.1 (tx + 4) = μ.1 (tx + 4) ∧ μ'.1 (tx + 5) = μ.1 (tx + 5) ∧ μ'.1 (tx + 6) = μ.1 (tx + 6) := by
  unfold fX8_addClause
  simp only [go_let]
  have e1 : (pm_wi μ (tx + 1) N v1).1 tx 6 = nI N := by rw [wi_c (by omega)]; exact hN
  have e2 : (pm_wi (pm_wi μ (tx + 1) N v1) (tx + 2) N v2).1 tx 6 = nI N := by rw [wi_c (by omega)]; exact e1
  have e3 : (pm_wi (pm_wi (pm_wi μ (tx + 1) N v1) (tx + 2) N v2) (tx + 3) N v3).1 tx 6 = nI N := by rw [wi_c (by omega)]; exact e2
  rw [hN, if_neg (nI_pos (show N < 2147483648 by omega)), if_neg (show ¬ (24 : Int32) ≤ nI N by rw [l_le (n := 24) (by omega) (by omega)]; omega), chk_n hN24 (by omega), cl_n (show N < 2147483648 by omega), e1, chk_n hN24 (by omega), cl_n (show N < 2147483648 by omega), e2, chk_n hN24 (by omega), cl_n (show N < 2147483648 by omega), e3, add_l 1]
  refine ⟨_, rfl, ((((CG.rfl' tx μ).wi (by omega)).wi (by omega)).wi (by omega)).wi (by omega), ?_, fun j hj => ?_, wi_e, ?_, ?_, ?_, fun k hk => ⟨?_, ?_, ?_⟩, ?_, ?_, ?_⟩
  · rw [wi_c (by omega), wi_c (by omega), wi_c (by omega), wi_c (by omega)]
  · rw [wi_i hj, wi_c (by omega), wi_c (by omega), wi_c (by omega)]
  · rw [wi_c (by omega), wi_c (by omega), wi_c (by omega), wi_e]
  · rw [wi_c (by omega), wi_c (by omega), wi_e]
  · rw [wi_c (by omega), wi_e]
  · rw [wi_c (by omega), wi_c (by omega), wi_c (by omega), wi_i hk]
  · rw [wi_c (by omega), wi_c (by omega), wi_i hk, wi_c (by omega)]
  · rw [wi_c (by omega), wi_i hk, wi_c (by omega), wi_c (by omega)]
  · rw [wi_c (by omega), wi_c (by omega), wi_c (by omega), wi_c (by omega)]
  · rw [wi_c (by omega), wi_c (by omega), wi_c (by omega), wi_c (by omega)]
  · rw [wi_c (by omega), wi_c (by omega), wi_c (by omega), wi_c (by omega)]
theorem CX_eq {μ μ' : PM} {e : Nat × Nat} (h : CX tx μ b n e) (h1 : μ'.1 372 = μ.1 372) (h2 : μ'.1 tx 7 = μ.1 tx 7) : CX tx μ' b n e := by
  unfold CX at h ⊢
  rw [h1, h2]
  exact h
/-- how a clause's end stands in the class -/
def CTL (tx : Nat) (μ : PM) (b : Nat → Nat) (n m N p : Nat) (v1 v2 v3 : Int32) (μ' : PM) (j : Nat) : Prop := CG tx μ μ' ∧ CS tx μ' b n m j p ∧ μ'.1 tx 6 = nI (N + 1) ∧ μ'.1 (tx + 1) N = v1 ∧ μ'.1 (tx + 2) N = v2 ∧ μ'.1 (tx + 3) N = v3 ∧ (∀ k, k ≠ N → μ'.1 (tx + 1) k = μ.1 (tx + 1) k ∧ μ'.1 (tx + 2) k = μ.1 (tx + 2) k ∧ μ'.1 (tx + 3) k = μ.1 (tx + 3) k) ∧ μ'.1 (tx + 4) = μ.1 (tx + 4) ∧ μ'.1 (tx + 5) = μ.1 (tx + 5) ∧ μ'.1 (tx + 6) = μ.1 (tx + 6)
theorem cx_tail {μ : PM} {N : Nat} {e : Nat × Nat} (htx : 343 ≤ tx ∧ tx ≤ 364) (h : CX tx μ b n e) (hN : μ.1 tx 6 = nI N) (hN24 : N < 24) (v1 v2 v3 : Int32) : ∃ μ', jjX6_readClause_197 tx μ v1 v2 v3 = some μ' ∧ CG tx μ μ' ∧ CX tx μ' b n e := by
  obtain ⟨μ1, x1, x2, x3⟩ := cx_exp (a := 50) htx h (by decide)
  obtain ⟨μ2, a1, a2, a3, a4, -⟩ := add_q htx ((x2.2.2.1 6 (by omega)).trans hN) hN24 v1 v2 v3
  unfold jjX6_readClause_197
  exact ⟨μ2, by rw [x1, Option.bind_some, a1, Option.bind_some], x2.cg.tr a2, CX_eq x3 a3 (a4 7 (by omega))⟩
theorem cs_tail {μ : PM} {N j p : Nat} (htx : 343 ≤ tx ∧ tx ≤ 364) (h : CS tx μ b n m j p) (hN : μ.1 tx 6 = nI N) (hN24 : N < 24) (v1 v2 v3 : Int32) :
    (tk_t b n j = 50 ∧ ∃ μ', jjX6_readClause_197 tx μ v1 v2 v3 = some μ' ∧ CTL tx μ b n m N p v1 v2 v3 μ' (j + 1)) ∨
    (tk_t b n j ≠ 50 ∧ ∃ μ', jjX6_readClause_197 tx μ v1 v2 v3 = some μ' ∧ CG tx μ μ' ∧ CX tx μ' b n (1, j)) := by
  unfold jjX6_readClause_197
  rcases cs_exp (x := 50) htx h (by omega) (by decide) with ⟨x0, μ1, x1, x2, x3, x4⟩ | ⟨x0, μ1, x1, x2, x3⟩
  · have x1 : fX6_expect μ 50 = some μ1 := x1
    obtain ⟨μ2, a1, a2, a3, a4, a5, a6, a7, a8, a9, a10, a11, a12⟩ := add_q htx ((x2.2.2.1 6 (by omega)).trans hN) hN24 v1 v2 v3
    refine Or.inl ⟨x0, μ2, by rw [x1, Option.bind_some, a1, Option.bind_some], x2.cg.tr a2, ?_, a5, a6, a7, a8, fun k hk => ?_, ?_, ?_, ?_⟩
    · obtain ⟨k1, k2, k3, k4, k5, k6, k7⟩ := x3
      exact ⟨TKC_cg k1 a2 htx, k2, k3, by rw [a3]; exact k4, by rw [a3]; exact k5, by rw [a3]; exact k6, (a4 7 (by omega)).trans k7⟩
    · obtain ⟨w1, w2, w3⟩ := a9 k hk
      rw [x4 _ (by omega)] at w1 w2 w3
      exact ⟨w1, w2, w3⟩
    · rw [a10, x4 _ (by omega)]
    · rw [a11, x4 _ (by omega)]
    · rw [a12, x4 _ (by omega)]
  · have x1 : fX6_expect μ 50 = some μ1 := x1
    obtain ⟨μ2, a1, a2, a3, a4, -⟩ := add_q htx ((x2.2.2.1 6 (by omega)).trans hN) hN24 v1 v2 v3
    exact Or.inr ⟨x0, μ2, by rw [x1, Option.bind_some, a1, Option.bind_some], x2.cg.tr a2, CX_eq x3 a3 (a4 7 (by omega))⟩
theorem cx_take {μ : PM} {e : Nat × Nat} (htx : 343 ≤ tx ∧ tx ≤ 364) (h : CX tx μ b n e) (lo hi : Int32) : ∃ v μ', fX6_takeWithin μ lo hi = some (v, μ') ∧ CF tx μ μ' ∧ CX tx μ' b n e := by
  unfold fX6_takeWithin
  rw [h.1, if_neg (show ¬ (53 : Int32) = 32 by decide)]
  obtain ⟨μ1, k1, k2, k3⟩ := cx_ref htx h 1
  exact ⟨lo, μ1, by rw [k1, Option.bind_some], k2, k3⟩
/-- the first number of a clause -/
def TKR (tx : Nat) (μ : PM) (b : Nat → Nat) (n m i p : Nat) (r : (Nat × Nat) ⊕ Nat) (o : Option (Int32 × PM)) : Prop := match r with
  | .inl e => ∃ v μ', o = some (v, μ') ∧ CF tx μ μ' ∧ CX tx μ' b n e
  | .inr x => x < 10000 ∧ ∃ μ', o = some (nI x, μ') ∧ CF tx μ μ' ∧ CS tx μ' b n m (i + 1) p ∧ (∀ c, c ≠ 372 → μ'.1 c = μ.1 c)
theorem tkr_take {μ : PM} {i p lo hi : Nat} (htx : 343 ≤ tx ∧ tx ≤ 364) (h : CS tx μ b n m i p) (hh : hi ≤ 9999) (hlo : lo ≤ 9999) : TKR tx μ b n m i p (tz_fig (tk_t b n) (tk_v b n) lo hi i) (fX6_takeWithin μ (nI lo) (nI hi)) := by
  have k := cs_take (lo := lo) (hi := hi) htx h hh hlo
  generalize tz_fig (tk_t b n) (tk_v b n) lo hi i = r at k ⊢
  cases r with
  | inl e =>
    obtain ⟨μ', k1, k2, k3⟩ := k
    exact ⟨_, μ', k1, k2, k3⟩
  | inr x => exact k
theorem tkr_id {μ : PM} {i p : Nat} {r : (Nat × Nat) ⊕ Nat} {o : Option (Int32 × PM)} (h : TKR tx μ b n m i p r o) : TKR tx μ b n m i p r (o.bind fun q => some ((q.1, q.2))) := by rw [id_b]; exact h
/-- name: its sounds -/
def tz_sd (t v : Nat → Nat) (i : Nat) : (Nat × Nat) ⊕ Nat := if (t i = 32 ∧ 1 ≤ v i ∧ v i ≤ 9999) ∧ tz_snd (v i) = false then .inl (7, i) else tz_fig t v 1 9999 i
theorem tkr_sounds {μ : PM} {i p : Nat} (htx : 343 ≤ tx ∧ tx ≤ 364) (h : CS tx μ b n m i p) : TKR tx μ b n m i p (tz_sd (tk_t b n) (tk_v b n) i) (fX6_takeSounds μ) := by
  have q := cs_is (x := 32) h (by omega)
  have hm := h.1.1
  have him := h.2.1
  have J : TKR tx μ b n m i p (tz_fig (tk_t b n) (tk_v b n) 1 9999 i) (jjX6_takeSounds_39 μ) := tkr_id (tkr_take (lo := 1) (hi := 9999) htx h (by omega) (by omega))
  unfold tz_sd fX6_takeSounds
  rw [vh_e h.2.2.2.1 (show i ≤ 300 by omega), Option.bind_some]
  by_cases c : tk_t b n i = 32
  · have l := tkc_lt h.1 him (by rw [c]; decide)
    have ev := h.1.2.2.2.2 i l c
    rw [if_pos (q.mpr c), ev]
    have l1 : nI (min (tk_v b n i) 10000) < 1 ↔ min (tk_v b n i) 10000 < 1 := lt_l (n := 1) (by omega) (by omega)
    have l2 : (9999 : Int32) < nI (min (tk_v b n i) 10000) ↔ 9999 < min (tk_v b n i) 10000 := l_lt (n := 9999) (by omega) (by omega)
    by_cases r : 1 ≤ tk_v b n i ∧ tk_v b n i ≤ 9999
    · rw [if_neg (show ¬ nI (min (tk_v b n i) 10000) < 1 from fun z => by have := l1.mp z; omega), if_neg (show ¬ (9999 : Int32) < nI (min (tk_v b n i) 10000) from fun z => by have := l2.mp z; omega), show min (tk_v b n i) 10000 = tk_v b n i by omega]
      rcases q_sounds (nI (tk_v b n i)) with ⟨g1, g⟩ | ⟨-, k, k1, k5, g1, g, -⟩
      · rw [g1, Option.bind_some, if_pos (show (0 : Int32) = 0 from rfl), if_pos (show (tk_t b n i = 32 ∧ 1 ≤ tk_v b n i ∧ tk_v b n i ≤ 9999) ∧ tz_snd (tk_v b n i) = false from ⟨⟨c, r⟩, by unfold tz_snd; rw [g]; decide⟩)]
        obtain ⟨μ1, r1, r2, r3, -⟩ := cs_ref (e := 7) htx h (by decide) (by decide)
        have r1 : fX6_refuse μ 7 = some μ1 := r1
        obtain ⟨v, μ2, s1, s2, s3⟩ := cx_take htx r3 1 9999
        unfold jjX6_takeSounds_39
        exact ⟨v, μ2, by rw [r1, Option.bind_some, s1, Option.bind_some], r2.tr s2, s3⟩
      · rw [g1, Option.bind_some, if_neg (show ¬ nI k = 0 from fun z => by have := (eq_l (n := 0) (show k < 2147483648 by omega) (by omega)).mp z; omega), if_neg (show ¬ ((tk_t b n i = 32 ∧ 1 ≤ tk_v b n i ∧ tk_v b n i ≤ 9999) ∧ tz_snd (tk_v b n i) = false) from fun z => by
          have := z.2
          unfold tz_snd at this
          rw [g] at this
          exact absurd this (by decide))]
        exact J
    · rw [if_neg (show ¬ ((tk_t b n i = 32 ∧ 1 ≤ tk_v b n i ∧ tk_v b n i ≤ 9999) ∧ tz_snd (tk_v b n i) = false) from fun z => r z.1.2)]
      by_cases r1 : min (tk_v b n i) 10000 < 1
      · rw [if_pos (l1.mpr r1)]
        exact J
      · rw [if_neg (fun z => r1 (l1.mp z)), if_pos (l2.mpr (by omega))]
        exact J
  · rw [if_neg (fun z => c (q.mp z)), if_neg (fun z => c z.1.1)]
    exact J
/-- a clause's answer in the class -/
def CCR (tx : Nat) (μ : PM) (b : Nat → Nat) (n m N p : Nat) (r : (Nat × Nat) ⊕ tz_A) (o : Option PM) : Prop := match r with
  | .inl e => ∃ μ', o = some μ' ∧ CG tx μ μ' ∧ CX tx μ' b n e
  | .inr a => ∃ μ' p', o = some μ' ∧ CG tx μ μ' ∧ CS tx μ' b n m a.1 p' ∧ μ'.1 tx 6 = nI (N + 1) ∧ μ'.1 (tx + 1) N = nI a.2.1 ∧ μ'.1 (tx + 2) N = nI a.2.2.1 ∧ μ'.1 (tx + 3) N = nI a.2.2.2.1 ∧ (∀ k, k ≠ N → μ'.1 (tx + 1) k = μ.1 (tx + 1) k ∧ μ'.1 (tx + 2) k = μ.1 (tx + 2) k ∧ μ'.1 (tx + 3) k = μ.1 (tx + 3) k) ∧ CB tx μ μ' p ∧
    (3 ≤ a.2.1 → p' = p ∧ μ'.1 (tx + 4) = μ.1 (tx + 4)) ∧
    (a.2.1 < 3 → p' = p + a.2.2.2.2.1.length + 1 ∧ CW tx μ' p a.2.2.2.2.1 ∧ μ'.1 (tx + 5) (p + a.2.2.2.2.1.length) = 53 ∧ μ'.1 (tx + 4) a.2.1 = nI p ∧ ∀ s', s' ≠ a.2.1 → μ'.1 (tx + 4) s' = μ.1 (tx + 4) s')
/-- the end of a clause that is no law -/
theorem cc_end {μ μ1 : PM} {N p j s x y : Nat} (htx : 343 ≤ tx ∧ tx ≤ 364) (h : CS tx μ1 b n m j p) (hc : ∀ c, c ≠ 372 → μ1.1 c = μ.1 c) (h2 : μ1.2 = μ.2) (hN : μ.1 tx 6 = nI N) (hN24 : N < 24) (h3 : 3 ≤ s) : CCR tx μ b n m N p (tz_end (tk_t b n) j (j + 1, s, x, y, [], [])) (jjX6_readClause_197 tx μ1 (nI s) (nI x) (nI y)) := by
  have G1 : CG tx μ μ1 := ⟨fun c k1 _ => hc c k1, h2⟩
  unfold tz_end
  rcases cs_tail htx h (by rw [hc tx (by omega)]; exact hN) hN24 (nI s) (nI x) (nI y) with ⟨t0, μ2, t1, t2, t3, t4, t5, t6, t7, t8, t9, t10, t11⟩ | ⟨t0, μ2, t1, t2, t3⟩
  · rw [if_pos t0]
    refine ⟨μ2, p, t1, G1.tr t2, t3, t4, t5, t6, t7, fun k hk => ?_, fun k _ => ?_, fun _ => ⟨rfl, ?_⟩, fun z => ?_⟩
    · obtain ⟨w1, w2, w3⟩ := t8 k hk
      rw [hc _ (by omega)] at w1 w2 w3
      exact ⟨w1, w2, w3⟩
    · rw [t10, t11, hc _ (by omega), hc _ (by omega)]
      exact ⟨rfl, rfl⟩
    · rw [t9, hc _ (by omega)]
    · have z : s < 3 := z
      omega
  · rw [if_neg t0]
    exact ⟨μ2, t1, G1.tr t2, t3⟩
end CC8
