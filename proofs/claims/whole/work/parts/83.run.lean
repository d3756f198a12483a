/-! ===== a law that runs: the class's stack beside the abstract one ===== -/
theorem addm1 {L : Nat} (h : 1 ≤ L) : nI L + (-1) = nI (L - 1) := by
  rw [← Int32.sub_eq_add_neg]
  exact sub_l (n := 1) h
theorem addm2 {L : Nat} (h : 2 ≤ L) : nI L + (-2) = nI (L - 2) := by
  rw [← Int32.sub_eq_add_neg]
  exact sub_l (n := 2) h
theorem subm1 {L : Nat} (h : 1 ≤ L) : nI L - 1 = nI (L - 1) := sub_l (n := 1) h
def RS (μ : PM) (st : List Int) : Prop := ∀ i, i < st.length → (μ.1 385 (st.length - 1 - i)).toInt = st.getD i 0
def RB (b : Nat) (st : List Int) : Prop := ∀ x ∈ st, -(1000000 + b : Int) ≤ x ∧ x ≤ (1000000 + b : Int)
theorem RS_top {μ : PM} {x : Int} {st : List Int} (h : RS μ (x :: st)) : (μ.1 385 st.length).toInt = x := by
  have := h 0 (by simp)
  simpa using this
theorem RS_tl {μ : PM} {x : Int} {st : List Int} (h : RS μ (x :: st)) : RS μ st := by
  intro i hi
  have := h (i + 1) (by simp only [List.length_cons]; omega)
  simp only [List.length_cons, List.getD_cons_succ] at this
  rw [show st.length + 1 - 1 - (i + 1) = st.length - 1 - i by omega] at this
  exact this
theorem RS_push {μ : PM} {v : Int32} {x : Int} {st : List Int} (h : RS μ st) (hv : v.toInt = x) : RS (pm_wi μ 385 st.length v) (x :: st) := by
  intro i hi
  cases i with
  | zero =>
    simp only [List.length_cons, Nat.add_sub_cancel, Nat.sub_zero, List.getD_cons_zero]
    rw [wi_e, hv]
  | succ i =>
    simp only [List.length_cons] at hi
    simp only [List.length_cons, List.getD_cons_succ]
    rw [wi_i (by omega), show st.length + 1 - 1 - (i + 1) = st.length - 1 - i by omega]
    exact h i (by omega)
theorem RB_tl {b : Nat} {x : Int} {st : List Int} (h : RB b (x :: st)) : RB b st := fun y hy => h y (List.mem_cons_of_mem _ hy)
theorem RB_le {b b' : Nat} {st : List Int} (h : RB b st) (hb : b ≤ b') : RB b' st := fun y hy => by have := h y hy; omega
theorem RB_push {b : Nat} {x : Int} {st : List Int} (h : RB b st) (hx : -(1000000 + b : Int) ≤ x ∧ x ≤ (1000000 + b : Int)) : RB b (x :: st) := fun y hy => by
  rcases List.mem_cons.mp hy with rfl | hy
  · exact hx
  · exact h y hy
theorem ez_wb (op : Nat) (a b : Int) : -1000000 ≤ ez_w op a b ∧ ez_w op a b ≤ 1000000 := by
  have hb : ∀ c : Bool, -1000000 ≤ ez_b c ∧ ez_b c ≤ 1000000 := fun c => by cases c <;> decide
  have hd : -1000000 ≤ ez_dig a b ∧ ez_dig a b ≤ 1000000 := by
    rw [← ez_dclip]
    exact ez_clip_b _
  have g : ∀ (c : Prop) [Decidable c] (A B : Int), (-1000000 ≤ A ∧ A ≤ 1000000) → (-1000000 ≤ B ∧ B ≤ 1000000) → -1000000 ≤ (if c then A else B) ∧ (if c then A else B) ≤ 1000000 := fun c _ A B h1 h2 => by
    by_cases h : c
    · rw [if_pos h]; exact h1
    · rw [if_neg h]; exact h2
  unfold ez_w
  exact g _ _ _ (ez_clip_b _) (g _ _ _ (ez_clip_b _) (g _ _ _ (ez_clip_b _) (g _ _ _ (g _ _ _ (by omega) (ez_clip_b _)) (g _ _ _ hd (g _ _ _ (ez_clip_b _) (g _ _ _ (ez_clip_b _) (g _ _ _ (hb _) (g _ _ _ (hb _) (g _ _ _ (hb _) (g _ _ _ (hb _) (g _ _ _ (hb _) (hb _))))))))))))
/-- one turn -/
theorem run_step {kn : Nat → Int} {ice : Int → Bool} {code : Nat → Nat × Nat} {a0 o p T b p' lim : Nat} {a1 : Int32} {μ : PM} {st st' : List Int} (hp : p < 320) (hl : st.length < 96) (hT : T < 320) (h1 : μ.1 (a0 + 5) p = nI (code p).1) (h2 : μ.1 (a0 + 6) p = nI (code p).2)
    (hc : (code p).1 < 64 ∧ (code p).2 < 10000 ∧ ((code p).1 = 10 → (code p).2 < lim)) (hlim : lim ≤ 9) (hk : ∀ j, j < lim → (μ.1 384 j).toInt = kn j) (hkb : ∀ j, j < 9 → -1000000 ≤ kn j ∧ kn j ≤ 1000000) (hi : ∀ v : Int32, fX10_isFrozen μ o v = some (if ice v.toInt = true then 1 else 0))
    (hs : RS μ st) (hb : RB b st) (hb3 : b < 320) (hst : cz_step kn ice code (p, st) = some (p', st')) :
    ∃ μ', lbX2_run_14 a0 a1 o (nI p) (nI st.length) (nI T) μ = some (.inl (nI p', nI st'.length, nI (T + 1), μ')) ∧ RS μ' st' ∧ RB (b + 1) st' ∧ (∀ c, c ≠ 385 → μ'.1 c = μ.1 c) ∧ μ'.2 = μ.2 := by
  obtain ⟨op, ar, hcd⟩ : ∃ op ar, code p = (op, ar) := ⟨(code p).1, (code p).2, rfl⟩
  rw [hcd] at h1 h2 hc
  obtain ⟨c1, c2, c3⟩ := hc
  have c1 : op < 64 := c1
  have c2 : ar < 10000 := c2
  have c3 : op = 10 → ar < lim := c3
  have h1 : μ.1 (a0 + 5) p = nI op := h1
  have h2 : μ.1 (a0 + 6) p = nI ar := h2
  have ne : ∀ k, k < 64 → op ≠ k → ¬ nI op = (OfNat.ofNat k : Int32) := fun k hk h q => h ((eq_l (n := k) (by omega) (by omega)).mp q)
  have fr : ∀ i v, (∀ c, c ≠ 385 → (pm_wi μ 385 i v).1 c = μ.1 c) ∧ (pm_wi μ 385 i v).2 = μ.2 := fun i v => ⟨fun c hc => wi_c hc, rfl⟩
  unfold lbX2_run_14
  simp only [go_let]
  rw [if_neg (by rw [l_le (n := 320) (by omega) (by omega)]; omega), if_neg (nI_pos (by omega)), if_neg (by rw [l_le (n := 320) (by omega) (by omega)]; omega), if_neg (by rw [l_le (n := 96) (by omega) (by omega)]; omega), chk_n hp (by omega), chk_n hp (by omega)]
  rw [cl_n (show p < 2147483648 by omega), h1, h2]
  unfold cz_step at hst
  simp only [hcd] at hst
  by_cases e32 : op = 32
  · rw [if_pos e32] at hst
    cases hst
    rw [if_pos (by rw [e32]; rfl), chk_n hl (by omega), add_l 1, add_l 1, add_l 1, cl_n (by omega)]
    exact ⟨_, rfl, RS_push hs (ti_n (by omega)), RB_push (RB_le hb (by omega)) (by omega), fr _ _⟩
  rw [if_neg e32] at hst
  rw [if_neg (ne 32 (by omega) e32)]
  by_cases e10 : op = 10
  · rw [if_pos e10] at hst
    cases hst
    have c3 := c3 e10
    rw [if_pos (by rw [e10]; rfl), if_neg (nI_pos (by omega)), if_neg (by rw [l_le (n := 9) (by omega) (by omega)]; omega), chk_n (show ar < 9 by omega) (by omega)]
    unfold jjX2_run_124_14
    simp only [go_let]
    rw [chk_n hl (by omega), add_l 1, add_l 1, add_l 1, cl_n (show st.length < 2147483648 by omega), cl_n (show ar < 2147483648 by omega)]
    have := hkb ar (by omega)
    exact ⟨_, rfl, RS_push hs (hk ar c3), RB_push (RB_le hb (by omega)) (by omega), fr _ _⟩
  rw [if_neg e10] at hst
  rw [if_neg (ne 10 (by omega) e10)]
  by_cases e24 : op = 24
  · rw [if_pos e24] at hst
    cases hst
    rw [if_pos (by rw [e24]; rfl), add_l 1]
    exact ⟨μ, rfl, hs, RB_le hb (by omega), fun c _ => rfl, rfl⟩
  rw [if_neg e24] at hst
  rw [if_neg (ne 24 (by omega) e24)]
  by_cases e53 : op = 53
  · rw [if_pos e53] at hst
    cases hst
  rw [if_neg e53] at hst
  rw [if_neg (ne 53 (by omega) e53)]
  cases st with
  | nil => cases hst
  | cons x st =>
    simp only [] at hst
    have hx := RS_top hs
    have hxb := hb x List.mem_cons_self
    have hs1 := RS_tl hs
    have hb1 := RB_tl hb
    have hl1 : st.length + 1 < 96 := by simpa using hl
    have eL : (x :: st).length = st.length + 1 := rfl
    have eP : st.length + 1 - 1 = st.length := by omega
    rw [eL, if_pos (by rw [l_le (n := 1) (by omega) (by omega)]; omega)]
    rw [addm1 (L := st.length + 1) (by omega), subm1 (L := st.length + 1) (by omega), eP, cl_n (show st.length < 2147483648 by omega)]
    by_cases e23 : op = 23
    · rw [if_pos e23] at hst
      obtain ⟨rfl, rfl⟩ := Prod.mk.inj (Option.some.inj hst)
      rw [if_pos (by rw [e23]; rfl), chk_n (by omega) (by omega)]
      unfold jjX2_run_188_14
      rw [add_l 1, add_l 1]
      have hz : (μ.1 385 st.length = 0) ↔ x = 0 := by
        rw [i_eq, hx]; exact Iff.rfl
      by_cases z : x = 0
      · rw [if_pos (hz.mpr z), if_pos z]
        exact ⟨μ, rfl, hs1, RB_le hb1 (by omega), fun c _ => rfl, rfl⟩
      · rw [if_neg (fun q => z (hz.mp q)), if_neg z]
        exact ⟨μ, rfl, hs1, RB_le hb1 (by omega), fun c _ => rfl, rfl⟩
    rw [if_neg e23] at hst
    rw [if_neg (ne 23 (by omega) e23)]
    by_cases e55 : op = 55
    · rw [if_pos e55] at hst
      cases hst
      rw [if_pos (by rw [e55]; rfl), chk_n (by omega) (by omega), chk_n (by omega) (by omega), add_l 1, add_l 1]
      refine ⟨_, rfl, RS_push hs1 ?_, RB_push (RB_le hb1 (by omega)) (by omega), fr _ _⟩
      rw [ti_neg (by omega), hx]
    rw [if_neg e55] at hst
    rw [if_neg (ne 55 (by omega) e55)]
    by_cases e28 : op = 28
    · rw [if_pos e28] at hst
      cases hst
      rw [if_pos (by rw [e28]; rfl), chk_n (by omega) (by omega), chk_n (by omega) (by omega), add_l 1, add_l 1]
      refine ⟨_, rfl, RS_push hs1 ?_, RB_push (RB_le hb1 (by omega)) (by omega), fr _ _⟩
      have e1 : (1 : Int32).toInt = 1 := rfl
      rw [ti_sub (by rw [e1]; omega) (by rw [e1]; omega), hx, e1]
    rw [if_neg e28] at hst
    rw [if_neg (ne 28 (by omega) e28)]
    by_cases e30 : op = 30
    · rw [if_pos e30] at hst
      cases hst
      rw [if_pos (by rw [e30]; rfl), chk_n (by omega) (by omega), hi, hx]
      unfold jjX2_run_288_14
      simp only [Option.bind_some, go_let]
      rw [add_l 1, add_l 1, chk_n (by omega) (by omega), chk_n (by omega) (by omega), cl_n (show st.length < 2147483648 by omega)]
      cases hq : ice x with
      | true =>
        rw [if_pos rfl, if_neg (by decide)]
        exact ⟨_, rfl, RS_push hs1 rfl, RB_push (RB_le hb1 (by omega)) (by unfold ez_b; simp; omega), fr _ _⟩
      | false =>
        rw [if_neg (show ¬ (false = true) by decide), if_pos rfl]
        exact ⟨_, rfl, RS_push hs1 rfl, RB_push (RB_le hb1 (by omega)) (by unfold ez_b; simp; omega), fr _ _⟩
    rw [if_neg e30] at hst
    rw [if_neg (ne 30 (by omega) e30)]
    cases st with
    | nil => cases hst
    | cons a st =>
      simp only [] at hst
      cases hst
      have ha := RS_top hs1
      have hab := hb1 a List.mem_cons_self
      have eL2 : (a :: st).length = st.length + 1 := rfl
      have eP2 : st.length + 1 - 1 = st.length := by omega
      simp only [eL2] at hl1 hx ⊢
      rw [if_pos (by rw [l_le (n := 2) (by omega) (by omega)]; omega), subm1 (L := st.length + 1) (by omega), eP2, chk_n (by omega) (by omega), chk_n (by omega) (by omega), cl_n (show st.length < 2147483648 by omega)]
      obtain ⟨w, hw, hw2⟩ := q_work (μ := μ) (op := op) (x := μ.1 385 st.length) (y := μ.1 385 (st.length + 1)) c1 (by omega) (by omega)
      rw [hw, Option.bind_some, chk_n (by omega) (by omega), add_l 1, add_l 1]
      have hwb := ez_wb op a x
      refine ⟨_, rfl, RS_push (RS_tl hs1) ?_, RB_push (RB_le (RB_tl hb1) (by omega)) (by omega), fr _ _⟩
      have e1 : (-1000000 : Int32).toInt = -1000000 := by decide
      have e2 : (1000000 : Int32).toInt = 1000000 := by decide
      rw [q_within (by rw [e1, e2]; omega), e1, e2, ez_cut_clip, hw2, hx, ha]
theorem cz_lt {kn : Nat → Int} {ice : Int → Bool} {code : Nat → Nat × Nat} : ∀ {n : Nat} {s s' : Nat × List Int}, cz_reach kn ice code n s s' → s.1 + n ≤ s'.1 := by
  intro n
  induction n with
  | zero => intro s s' h; cases h; omega
  | succ n ih =>
    intro s s' h
    obtain ⟨-, -, s1, -, h3, h4⟩ := h
    have := ih h4
    omega
/-- a whole run -/
theorem run_all {kn : Nat → Int} {ice : Int → Bool} {code : Nat → Nat × Nat} {a0 o p0 pe lim : Nat} {a1 : Int32} {x : Int} (hpe : pe < 320) (hlim : lim ≤ 9) (hc : ∀ j, p0 ≤ j → j < pe → (code j).1 < 64 ∧ (code j).2 < 10000 ∧ ((code j).1 = 10 → (code j).2 < lim)) (ha : a0 + 5 ≠ 385 ∧ a0 + 6 ≠ 385) (hkb : ∀ j, j < 9 → -1000000 ≤ kn j ∧ kn j ≤ 1000000) (ho : o + 1 < 384) :
    ∀ n p st T μ fuel, cz_reach kn ice code n (p, st) (pe, [x]) → p0 ≤ p → T ≤ p → n < fuel → (∀ j, p0 ≤ j → j < pe → μ.1 (a0 + 5) j = nI (code j).1 ∧ μ.1 (a0 + 6) j = nI (code j).2) → μ.1 (a0 + 5) pe = 53 →
      (∀ j, j < lim → (μ.1 384 j).toInt = kn j) → (∀ v : Int32, fX10_isFrozen μ o v = some (if ice v.toInt = true then 1 else 0)) → RS μ st → RB T st →
      ∃ μ', lp (fun s => lbX2_run_14 a0 a1 o s.1 s.2.1 s.2.2.1 s.2.2.2) fuel (nI p, nI st.length, nI T, μ) = some (.inl (1, μ')) ∧ (μ'.1 385 0).toInt = x ∧ (∀ c, c ≠ 385 → μ'.1 c = μ.1 c) ∧ μ'.2 = μ.2 := by
  intro n
  induction n with
  | zero =>
    intro p st T μ fuel h hp hT hf hm he hk hi hs hb
    cases h
    obtain ⟨k, rfl⟩ : ∃ k, fuel = k + 1 := ⟨fuel - 1, by omega⟩
    refine ⟨μ, lp_e ?_, RS_top hs, fun c _ => rfl, rfl⟩
    show lbX2_run_14 a0 a1 o (nI pe) (nI 1) (nI T) μ = _
    unfold lbX2_run_14
    simp only [go_let]
    rw [if_neg (by rw [l_le (n := 320) (by omega) (by omega)]; omega), if_neg (nI_pos (by omega)), if_neg (by rw [l_le (n := 320) (by omega) (by omega)]; omega), if_neg (by decide), chk_n hpe (by omega), chk_n hpe (by omega)]
    rw [cl_n (show pe < 2147483648 by omega), he]
    rw [if_neg (by decide), if_neg (by decide), if_neg (by decide), if_pos rfl]
    rfl
  | succ n ih =>
    intro p st T μ fuel h hp hT hf hm he hk hi hs hb
    have hle := cz_lt h
    obtain ⟨g1, g2, ⟨p', st'⟩, h1, h3, h4⟩ := h
    have hle : p + (n + 1) ≤ pe := hle
    have g1 : p < 320 := g1
    have g2 : st.length < 96 := g2
    have h3 : p < p' := h3
    obtain ⟨k, rfl⟩ : ∃ k, fuel = k + 1 := ⟨fuel - 1, by omega⟩
    obtain ⟨m1, m2⟩ := hm p hp (by omega)
    obtain ⟨μ1, r1, r2, r3, r4, r5⟩ := run_step (a1 := a1) (T := T) g1 g2 (by omega) m1 m2 (hc p hp (by omega)) hlim hk hkb hi hs hb (by omega) h1
    obtain ⟨μ2, q1, q2, q3, q4⟩ := ih p' st' (T + 1) μ1 k h4 (by omega) (by omega) (by omega) (fun j hj1 hj2 => by rw [r4 _ ha.1, r4 _ ha.2]; exact hm j hj1 hj2) (by rw [r4 _ ha.1]; exact he) (fun j hj => by rw [r4 _ (by omega)]; exact hk j hj) (fun v => by
      have : fX10_isFrozen μ1 o v = fX10_isFrozen μ o v := by unfold fX10_isFrozen; rw [r4 o (by omega), r4 (o + 1) (by omega)]
      rw [this]; exact hi v) r2 r3
    refine ⟨μ2, ?_, q2, fun c hc => (q3 c hc).trans (r4 c hc), q4.trans r5⟩
    rw [lp_l (s' := (nI p', nI st'.length, nI (T + 1), μ1)) r1]
    exact q1
