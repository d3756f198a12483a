/-! ===== a whole SUM of the reference ===== -/
section AZI
variable {t v : Nat → Nat} {lk : Nat}
theorem az_end_i {i o : Nat} {q : List Nat} {out : pz_C} {s1 : az_S} (h : az_endOne t i q o out = .inl s1) : s1.1 = i ∨ (s1.1 = i + 1 ∧ t i ≠ 53) := by
  unfold az_endOne at h
  split at h
  · by_cases c : t i = 21
    · rw [if_pos c] at h
      cases h
      exact Or.inr ⟨rfl, by rw [c]; decide⟩
    · rw [if_neg c] at h
      cases h
  · cases h
    exact Or.inl rfl
theorem az_bet_53 (q : List Nat) : az_between 53 q = none := by
  unfold az_between
  simp [pz_cmp]
theorem az_part_53 (q : List Nat) : az_part 53 q = none := by
  unfold az_part
  split
  · rfl
  · simp
theorem az_step_i {s s1 : az_S} (h : az_step t v lk s = .inl s1) : t s.1 ≠ 53 ∧ (s1.1 = s.1 + 1 ∨ (s1.1 = s.1 + 2 ∧ t (s.1 + 1) ≠ 53)) := by
  obtain ⟨i, q, o, bh, out⟩ := s
  unfold az_step at h
  show t i ≠ 53 ∧ (s1.1 = i + 1 ∨ (s1.1 = i + 2 ∧ t (i + 1) ≠ 53))
  cases bh with
  | true =>
    rw [if_pos rfl] at h
    dsimp only at h
    constructor
    · intro e
      unfold az_behind at h
      rw [e, az_bet_53] at h
      dsimp only at h
      rw [az_part_53] at h
      dsimp only at h
      split at h <;> cases h
    · unfold az_behind at h
      split at h
      · cases h
        exact Or.inl rfl
      · split at h
        · split at h <;> cases h
        · exact az_end_i h
        · cases h
          exact Or.inl rfl
  | false =>
    rw [if_neg (show ¬ (false = true) by decide)] at h
    dsimp only at h
    constructor
    · intro e
      unfold az_begin at h
      simp [e] at h
    · have op : ∀ x, az_opened i q o out x = .inl s1 → s1.1 = i + 1 := fun x hx => by
        unfold az_opened at hx
        by_cases c : o = 8
        · rw [if_pos c] at hx
          cases hx
        · rw [if_neg c] at hx
          cases hx
          rfl
      unfold az_begin at h
      repeat' split at h
      all_goals first | exact az_end_i h | exact Or.inl (op _ h) | (cases h; done)
theorem az_end_e {i o : Nat} {q : List Nat} {out : pz_C} {e : Nat × Nat} (h : az_endOne t i q o out = .inr e) : e.1 = 1 := by
  unfold az_endOne at h
  split at h
  · split at h
    · cases h
    · cases h
      rfl
  · cases h
theorem az_step_e {s : az_S} {e : Nat × Nat} (h : az_step t v lk s = .inr e) : e.1 ≤ 5 ∧ (e.1 = 0 → s.2.2.2.1 = true ∧ az_between (t s.1) s.2.1 = none ∧ az_part (t s.1) s.2.1 = none) := by
  obtain ⟨i, q, o, bh, out⟩ := s
  have ne : e.1 ≠ 0 ∧ e.1 ≤ 5 → e.1 ≤ 5 ∧ (e.1 = 0 → bh = true ∧ az_between (t i) q = none ∧ az_part (t i) q = none) := fun x => ⟨x.2, fun y => absurd y x.1⟩
  have en : ∀ {i' o' : Nat} {q' : List Nat} {out' : pz_C}, az_endOne t i' q' o' out' = .inr e → e.1 ≠ 0 ∧ e.1 ≤ 5 := fun h => by
    have := az_end_e h
    omega
  have d2 : ∀ k : Nat, 1 ≤ k → k ≤ 5 → (k, i).1 ≠ 0 ∧ (k, i).1 ≤ 5 := fun k a c => ⟨by show k ≠ 0; omega, c⟩
  show e.1 ≤ 5 ∧ (e.1 = 0 → bh = true ∧ az_between (t i) q = none ∧ az_part (t i) q = none)
  unfold az_step at h
  cases bh with
  | true =>
    rw [if_pos rfl] at h
    dsimp only at h
    unfold az_behind at h
    split at h
    · cases h
    next hb =>
      split at h
      next hp =>
        split at h
        · cases h
          exact ⟨Nat.zero_le _, fun _ => ⟨rfl, hb, hp⟩⟩
        · cases h
          exact ne (d2 _ (by decide) (by decide))
      · exact ne (en h)
      · cases h
  | false =>
    rw [if_neg (show ¬ (false = true) by decide)] at h
    dsimp only at h
    have op : ∀ x, az_opened i q o out x = .inr e → e.1 ≠ 0 ∧ e.1 ≤ 5 := fun x hx => by
      unfold az_opened at hx
      by_cases c : o = 8
      · rw [if_pos c] at hx
        cases hx
        exact d2 _ (by decide) (by decide)
      · rw [if_neg c] at hx
        cases hx
    unfold az_begin at h
    repeat' split at h
    all_goals first | exact ne (en h) | exact ne (op _ h) | (cases h; exact ne (d2 _ (by decide) (by decide)))
def pz_F (r : Option pz_R) : Prop := ∀ e, r = some (.inl e) → e.1 ≠ 0
theorem pz_F_r {x : Nat × pz_C × pz_C} : pz_F (some (.inr x)) := fun e h => by cases h
theorem pz_F_l {a j : Nat} (ha : a ≠ 0) : pz_F (some (.inl (a, j))) := fun e h => by cases h; exact ha
theorem pz_F_b {r : Option pz_R} {f : Nat → pz_C → pz_C → Option pz_R} (h1 : pz_F r) (h2 : ∀ j c m, pz_F (f j c m)) : pz_F (pz_bind r f) := fun e h => by
  rcases pz_bind_e h with ⟨e', k1, k2⟩ | ⟨j, c, m, k1, k2⟩
  · cases k2
    exact h1 e k1
  · exact h2 j c m e k2
theorem pz_F_w {x j : Nat} {A : Option pz_R} (h : pz_F A) : pz_F (pz_want t x j A) := by
  unfold pz_want
  split
  · exact h
  · exact pz_F_l (by decide)
theorem pz_F_o {d i : Nat} {A : Option pz_R} (h : pz_F A) : pz_F (pz_open d i A) := by
  unfold pz_open
  split
  · exact pz_F_l (by decide)
  · exact h
theorem pz_F_two {rec : Nat → Nat → Nat → Nat → Option pz_R} (hr : ∀ k d i p, pz_F (rec k d i p)) (k k' d i p : Nat) : pz_F (pz_two rec k k' d i p) := pz_F_b (hr _ _ _ _) fun _ _ _ => pz_F_b (hr _ _ _ _) fun _ _ _ => pz_F_r
theorem pz_F_more {rec : Nat → Nat → Nat → Nat → Option pz_R} (hr : ∀ k d i p, pz_F (rec k d i p)) (g : Nat → Option Nat) (k k' d i p : Nat) : pz_F (pz_more t rec g k k' d i p) := by
  unfold pz_more
  split
  · exact pz_F_r
  · exact pz_F_b (hr _ _ _ _) fun _ _ _ => pz_F_b (hr _ _ _ _) fun _ _ _ => pz_F_r
theorem pz_F_P : ∀ n k d i p, pz_F (pz_P t v lk n k d i p) := by
  intro n
  induction n with
  | zero => intro k d i p e h; cases h
  | succ n hr =>
    intro k d i p
    show pz_F (pz_B t v lk (pz_P t v lk n) k d i p)
    unfold pz_B
    split
    · exact pz_F_two hr _ _ _ _ _
    · exact pz_F_two hr _ _ _ _ _
    · unfold pz_one
      repeat' split
      all_goals first
        | exact pz_F_r
        | exact pz_F_l (by decide)
        | exact pz_F_o (pz_F_b (hr _ _ _ _) fun _ _ _ => pz_F_w pz_F_r)
        | exact pz_F_o (pz_F_b (hr _ _ _ _) fun _ _ _ => pz_F_r)
        | exact pz_F_o (pz_F_b (hr _ _ _ _) fun _ _ _ => pz_F_w (pz_F_b (hr _ _ _ _) fun _ _ _ => pz_F_r))
        | exact pz_F_o (hr _ _ _ _)
    · exact pz_F_b (hr _ _ _ _) fun _ _ _ => pz_F_w (pz_F_b (hr _ _ _ _) fun _ _ _ => pz_F_w (pz_F_b (hr _ _ _ _) fun _ _ _ => pz_F_w pz_F_r))
    · exact pz_F_two hr _ _ _ _ _
    · exact pz_F_two hr _ _ _ _ _
    · unfold pz_ask
      split
      · exact pz_F_o (pz_F_b (hr _ _ _ _) fun _ _ _ => pz_F_r)
      · refine pz_F_b (hr _ _ _ _) fun _ _ _ => ?_
        split
        · exact pz_F_l (by decide)
        · exact pz_F_b (hr _ _ _ _) fun _ _ _ => pz_F_r
    · exact pz_F_more hr _ _ _ _ _ _
    · exact pz_F_more hr _ _ _ _ _ _
    · exact pz_F_more hr _ _ _ _ _ _
    · exact pz_F_more hr _ _ _ _ _ _
end AZI
section SMD
variable {b : Nat → Nat} {n T : Nat}
theorem tk_pos_ge : ∀ i, tk_pos b n i < n → i ≤ tk_pos b n i := by
  intro i
  induction i with
  | zero => exact fun _ => Nat.zero_le _
  | succ i ih =>
    intro h
    by_cases c : tk_pos b n i < n
    · have e : tk_pos b n (i + 1) = tk_run tk_sp b n (tk_end b n (tk_pos b n i)) := if_pos c
      have h1 := tk_end_le (b := b) c
      have h2 := (tk_run_le (P := tk_sp) (b := b) h1.2).1
      have := ih c
      omega
    · have e : tk_pos b n (i + 1) = tk_pos b n i := if_neg c
      omega
theorem tk_t_lt {i : Nat} (h : tk_t b n i ≠ 53) : i < n := by
  by_cases c : tk_pos b n i < n
  · have := tk_pos_ge i c
    omega
  · exact absurd (if_neg c) h
/-- one step of the pile -/
theorem sm_step {μ : PM} {s : az_S} {so : Nat} (h : MZ μ b n T s) (hG : az_G s) (hi : s.1 ≤ n) (hs : μ.1 401 14 = nI so) (h3 : so < 3) :
    (s.2.2.2.1 = true ∧ az_between (tk_t b n s.1) s.2.1 = none ∧ az_part (tk_t b n s.1) s.2.1 = none ∧ lbX12_summed_15 μ = some (.inr (.inl μ))) ∨
    (∃ s1 μ', az_step (tk_t b n) (tk_v b n) (lk_of so) s = .inl s1 ∧ lbX12_summed_15 μ = some (.inl μ') ∧ MZ μ' b n T s1 ∧ EF T μ μ') ∨
    (∃ e μ', az_step (tk_t b n) (tk_v b n) (lk_of so) s = .inr e ∧ e.1 ≠ 0 ∧ lbX12_summed_15 μ = some (.inr (.inr (nI e.1, μ'))) ∧ TM μ' b n (tk_pos b n e.2) ∧ EF T μ μ') := by
  have n300 := h.1.2.1
  obtain ⟨i, q, o, bh, out⟩ := s
  obtain ⟨g1, g2⟩ := hG
  have g1 : q.length ≤ 120 := g1
  have g2 : out.length + q.length ≤ i := g2
  have hi : i ≤ n := hi
  have res : ∀ (R : az_S ⊕ (Nat × Nat)) (p : Option (Int32 × PM)), AZR μ b n T R p → (∀ e, R = .inr e → e.1 ≠ 0 ∧ e.1 ≤ 5) → (∃ s1 μ', R = .inl s1 ∧ (p.bind fun q4 => jjX12_summed_33_15 q4.2 q4.1) = some (.inl μ') ∧ MZ μ' b n T s1 ∧ EF T μ μ') ∨ (∃ e μ', R = .inr e ∧ e.1 ≠ 0 ∧ (p.bind fun q4 => jjX12_summed_33_15 q4.2 q4.1) = some (.inr (.inr (nI e.1, μ'))) ∧ TM μ' b n (tk_pos b n e.2) ∧ EF T μ μ') := by
    intro R p hA hR
    cases R with
    | inl s1 =>
      obtain ⟨μ', r1, r2, r3⟩ := hA
      refine Or.inl ⟨s1, μ', rfl, ?_, r2, r3⟩
      rw [r1, Option.bind_some]
      show jjX12_summed_33_15 μ' 0 = _
      unfold jjX12_summed_33_15
      rw [if_pos (by decide), if_pos rfl]
    | inr e =>
      obtain ⟨μ', r1, r2, r3, r4⟩ := hA
      obtain ⟨he, hb⟩ := hR e rfl
      refine Or.inr ⟨e, μ', rfl, he, ?_, r2, r3⟩
      rw [if_neg he] at r1
      rw [r1, Option.bind_some]
      show jjX12_summed_33_15 μ' (nI e.1) = _
      unfold jjX12_summed_33_15
      rw [if_neg (show ¬ nI e.1 ≤ 0 by rw [le_l (n := 0) (by omega) (by omega)]; omega)]
  have stp : ∀ e, az_step (tk_t b n) (tk_v b n) (lk_of so) (i, q, o, bh, out) = .inr e → e.1 ≤ 5 ∧ (e.1 = 0 → bh = true ∧ az_between (tk_t b n i) q = none ∧ az_part (tk_t b n i) q = none) := fun e he => az_step_e he
  unfold lbX12_summed_15
  cases bh with
  | false =>
    have e18 : μ.1 401 18 = 0 := h.2.2.2.2.2.1
    right
    rw [if_pos e18]
    exact res _ _ (q_beginM h hs h3 (by omega) (by omega)) (fun e he => ⟨fun z => absurd ((stp e he).2 z).1 (show ¬ (false = true) by decide), (stp e he).1⟩)
  | true =>
    have e18 : μ.1 401 18 = 1 := h.2.2.2.2.2.1
    rw [if_neg (show ¬ μ.1 401 18 = 0 by rw [e18]; decide)]
    cases e1 : az_between (tk_t b n i) q with
    | some y =>
      right
      exact res _ _ (q_behindB h e1 (by omega) (by omega)) (fun e he => ⟨fun z => absurd (e1.symm.trans ((stp e he).2 z).2.1) (fun w => by cases w), (stp e he).1⟩)
    | none =>
      cases e2 : az_part (tk_t b n i) q with
      | some y =>
        right
        exact res _ _ (q_behindP h e1 e2 (by omega) (by omega)) (fun e he => ⟨fun z => absurd (e2.symm.trans ((stp e he).2 z).2.2) (fun w => by cases w), (stp e he).1⟩)
      | none =>
        left
        refine ⟨rfl, rfl, rfl, ?_⟩
        rw [q_behindN h.1 h.2.1 h.2.2.1 e1 e2, Option.bind_some]
        show jjX12_summed_33_15 μ (-1) = _
        unfold jjX12_summed_33_15
        rw [if_pos (by decide), if_neg (by decide)]
theorem sm_reach {so : Nat} (h3 : so < 3) : ∀ k s s' μ fuel, az_reach (tk_t b n) (tk_v b n) (lk_of so) k s s' → MZ μ b n T s → s.1 ≤ n → μ.1 401 14 = nI so → s.1 + k ≤ s'.1 ∧ s'.1 ≤ n ∧ ∃ μ', lp (fun s => lbX12_summed_15 s) (fuel + k) μ = lp (fun s => lbX12_summed_15 s) fuel μ' ∧ MZ μ' b n T s' ∧ EF T μ μ' := by
  intro k
  induction k with
  | zero =>
    intro s s' μ fuel hr h hi hs
    cases hr
    exact ⟨Nat.le_refl _, hi, μ, rfl, h, EF.rfl' T μ⟩
  | succ k ih =>
    intro s s' μ fuel hr h hi hs
    obtain ⟨hG, s1, e1, hr⟩ := hr
    obtain ⟨n1, n2⟩ := az_step_i e1
    have l1 := tk_t_lt n1
    have hi1 : s1.1 ≤ n := by
      rcases n2 with e | ⟨e, n3⟩
      · omega
      · have := tk_t_lt n3
        omega
    rcases sm_step h hG hi hs h3 with ⟨c1, c2, c3, -⟩ | ⟨s2, μ', c1, c2, c3, c4⟩ | ⟨e, μ', c1, -⟩
    · exfalso
      unfold az_step at e1
      rw [if_pos c1] at e1
      unfold az_behind at e1
      rw [c2] at e1
      dsimp only at e1
      rw [c3] at e1
      dsimp only at e1
      split at e1 <;> cases e1
    · rw [e1] at c1
      cases c1
      obtain ⟨j1, j2, μ2, j3, j4, j5⟩ := ih s1 s' μ' fuel hr c3 hi1 ((c4.2.1 14 (by omega)).trans hs)
      refine ⟨by omega, j2, μ2, ?_, j4, c4.tr j5⟩
      rw [show fuel + (k + 1) = (fuel + k) + 1 from rfl, lp_l c2]
      exact j3
    · rw [e1] at c1
      cases c1
theorem q_summed {μ : PM} {i so N p : Nat} {out : pz_C} {r : pz_R} (hT : TPM μ b n) (hM : TM μ b n (tk_pos b n i)) (hO : OUTM μ T out) (ho : out.length ≤ i) (hi : i ≤ n) (hs : μ.1 401 14 = nI so) (h3 : so < 3) (hr : pz_P (tk_t b n) (tk_v b n) (lk_of so) N 0 0 i p = some r) :
    match r with
    | .inl e => e.1 ≠ 0 ∧ ∃ μ', fX12_summed μ = some (nI e.1, μ') ∧ TM μ' b n (tk_pos b n e.2) ∧ EF T μ μ'
    | .inr x => ∃ μ', fX12_summed μ = some (0, μ') ∧ TM μ' b n (tk_pos b n x.1) ∧ OUTM μ' T (out ++ x.2.2) ∧ EF T μ μ' := by
  have n300 := hT.2.1
  have hz := az_sum (t := tk_t b n) (v := tk_v b n) (lk := lk_of so) hr ho
  have E3 : EF T μ (pm_wi (pm_wi (pm_wi μ 401 16 0) 401 17 0) 401 18 0) := ((((EF.rfl' T μ).wi1 (by omega)).wi1 (by omega)).wi1 (by omega))
  have S3 : MZ (pm_wi (pm_wi (pm_wi μ 401 16 0) 401 17 0) 401 18 0) b n T (i, [], 0, false, out) := by
    refine ⟨TPM_ef hT E3, TM_sf hM (fun j j1 j2 => by rw [wi_i (by omega), wi_i (by omega), wi_i (by omega)]) rfl, ⟨?_, Nat.zero_le _, fun k hk => absurd hk (Nat.not_lt_zero k)⟩, ?_, rfl, wi_e, OUTM_eq hO (by rw [wi_i (by omega), wi_i (by omega), wi_i (by omega)]) (by rw [wi_i (by omega), wi_i (by omega), wi_i (by omega)]) (by rw [wi_c (by decide), wi_c (by decide), wi_c (by decide)])⟩
    · rw [wi_i (by omega), wi_i (by omega), wi_e]
      rfl
    · rw [wi_i (by omega), wi_e]
      rfl
  unfold fX12_summed
  simp only [go_let]
  generalize pm_wi (pm_wi (pm_wi μ 401 16 0) 401 17 0) 401 18 0 = μ3 at E3 S3 ⊢
  have hs3 : μ3.1 401 14 = nI so := (E3.2.1 14 (by omega)).trans hs
  have fu : ∀ k, k ≤ n → ∃ f, go_fuel = (f + 1) + k := fun k hk => ⟨99999 - k, by unfold go_fuel; omega⟩
  cases r with
  | inl e =>
    obtain ⟨s', ⟨k, hk⟩, hG, hst⟩ := hz
    have e0 : e.1 ≠ 0 := pz_F_P _ _ _ _ _ e hr
    obtain ⟨j1, j2, -⟩ := sm_reach h3 k _ s' μ3 0 hk S3 hi hs3
    have j1 : i + k ≤ s'.1 := j1
    obtain ⟨f, hf⟩ := fu k (by omega)
    obtain ⟨-, -, μ4, j3, j4, j5⟩ := sm_reach h3 k _ s' μ3 (f + 1) hk S3 hi hs3
    rw [hf, j3]
    refine ⟨e0, ?_⟩
    rcases sm_step j4 hG j2 ((j5.2.1 14 (by omega)).trans hs3) h3 with ⟨c1, c2, c3, c4⟩ | ⟨s2, μ', c1, c2, c3, c4⟩ | ⟨e', μ', c1, c2⟩
    · obtain ⟨x1, x2, x3, x4, x5⟩ := s'
      have c1 : x4 = true := c1
      subst c1
      have c2 : az_between (tk_t b n x1) x2 = none := c2
      have c3 : az_part (tk_t b n x1) x2 = none := c3
      have hst : az_behind (tk_t b n) x1 x2 x3 x5 = .inr e := hst
      have hP : PLM μ4 x2 := j4.2.2.1
      have hM4 : TM μ4 b n (tk_pos b n x1) := j4.2.1
      unfold az_behind at hst
      rw [c2] at hst
      dsimp only at hst
      rw [c3] at hst
      dsimp only at hst
      have hnn := oI_neg (now_lt hP)
      by_cases cn : az_now x2 = none
      · rw [if_pos cn] at hst
        cases hst
        exact absurd rfl e0
      · rw [if_neg cn] at hst
        cases hst
        rw [lp_e c4, Option.bind_some]
        show ∃ μ', ((fX12_openNow μ4).bind fun q8 => if q8 < 0 then (fX12_settle μ4 1).bind fun q9 => some ((0, q9)) else some ((1, μ4))) = _ ∧ _
        rw [q_openNow hP, Option.bind_some, if_neg (fun z => cn (hnn.mp z))]
        exact ⟨μ4, rfl, hM4, E3.tr j5⟩
    · rw [hst] at c1
      cases c1
    · rw [hst] at c1
      cases c1
      obtain ⟨-, k1, k2, k3⟩ := c2
      rw [lp_e k1, Option.bind_some]
      exact ⟨μ', rfl, k2, E3.tr (j5.tr k3)⟩
  | inr x =>
    obtain ⟨pd, out', ⟨k, hk⟩, hG, hst, hse⟩ := hz
    obtain ⟨j1, j2, -⟩ := sm_reach h3 k _ _ μ3 0 hk S3 hi hs3
    have j1 : i + k ≤ x.1 := j1
    have j2 : x.1 ≤ n := j2
    obtain ⟨f, hf⟩ := fu k (by omega)
    obtain ⟨-, -, μ4, j3, j4, j5⟩ := sm_reach h3 k _ _ μ3 (f + 1) hk S3 hi hs3
    rw [hf, j3]
    have hP : PLM μ4 pd := j4.2.2.1
    have hM4 : TM μ4 b n (tk_pos b n x.1) := j4.2.1
    have hO4 : OUTM μ4 T out' := j4.2.2.2.2.2.2
    have hc4 : μ4.1 401 17 = nI 0 := j4.2.2.2.1
    have hca : 0 = az_c pd := j4.2.2.2.2.1
    have hG2 : out'.length + pd.length ≤ x.1 := hG.2
    rcases sm_step j4 hG j2 ((j5.2.1 14 (by omega)).trans hs3) h3 with ⟨c1, c2, c3, c4⟩ | ⟨s2, μ', c1, c2, c3, c4⟩ | ⟨e', μ', c1, c2⟩
    · have c2 : az_between (tk_t b n x.1) pd = none := c2
      have c3 : az_part (tk_t b n x.1) pd = none := c3
      have hst : az_behind (tk_t b n) x.1 pd 0 out' = .inr (0, x.1) := hst
      unfold az_behind at hst
      rw [c2] at hst
      dsimp only at hst
      rw [c3] at hst
      dsimp only at hst
      have hnn := oI_neg (now_lt hP)
      by_cases cn : az_now pd = none
      · rw [lp_e c4, Option.bind_some]
        show ∃ μ', ((fX12_openNow μ4).bind fun q8 => if q8 < 0 then (fX12_settle μ4 1).bind fun q9 => some ((0, q9)) else some ((1, μ4))) = _ ∧ _
        rw [q_openNow hP, Option.bind_some, if_pos (hnn.mpr cn)]
        obtain ⟨μ5, k1, k2, k3, k4, k5, k6, k7⟩ := q_settle (least := 1) (by omega) (by omega) hP hO4 (by omega) (by rw [hc4, hca])
        have k1 : fX12_settle μ4 1 = some μ5 := k1
        rw [k1, Option.bind_some]
        rw [← hca, hse] at k3
        refine ⟨μ5, rfl, TM_sf hM4 (fun j j1 j2 => k7.2.1 j (by omega) (by omega) (by omega)) (by rw [k7.2.2]), k3, E3.tr (j5.tr k6)⟩
      · rw [if_neg cn] at hst
        cases hst
    · rw [hst] at c1
      cases c1
    · rw [hst] at c1
      cases c1
      exact absurd rfl c2.1
end SMD
