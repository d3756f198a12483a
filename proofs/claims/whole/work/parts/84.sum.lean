/-! ===== longs: division, remainder; the reference's sum beside the abstract one ===== -/
theorem tl_div {a b : Int64} (ha : -9000000000000000000 ≤ a.toInt ∧ a.toInt ≤ 9000000000000000000) : (a / b).toInt = a.toInt.tdiv b.toInt := by
  rw [Int64.toInt_div]
  have := Int.natAbs_tdiv_le_natAbs a.toInt b.toInt
  exact Int.bmod_eq_of_le (by omega) (by omega)
theorem tdiv_mul_le (x y : Int) : (x.tdiv y * y).natAbs ≤ x.natAbs := by
  rw [Int.natAbs_mul, Int.natAbs_tdiv]
  exact Nat.div_mul_le_self _ _
theorem tl_rem {a b : Int64} (ha : -4000000000000000000 ≤ a.toInt ∧ a.toInt ≤ 4000000000000000000) : (jreml a b).toInt = a.toInt.tmod b.toInt := by
  unfold jreml
  have h1 := tdiv_mul_le a.toInt b.toInt
  have h2 : (a / b * b).toInt = a.toInt.tdiv b.toInt * b.toInt := by
    rw [tl_mul (by rw [tl_div (by omega)]; omega) (by rw [tl_div (by omega)]; omega), tl_div (by omega)]
  rw [tl_sub (by rw [h2]; omega) (by rw [h2]; omega), h2, Int.tmod_def, Int.mul_comm]
theorem ti_div {a b : Int32} (ha : -2147483647 ≤ a.toInt) : (a / b).toInt = a.toInt.tdiv b.toInt := by
  rw [Int32.toInt_div]
  have := Int.natAbs_tdiv_le_natAbs a.toInt b.toInt
  have := a.toInt_lt
  exact Int.bmod_eq_of_le (by omega) (by omega)
theorem ti_rem {a b : Int32} (ha : -1000000000 ≤ a.toInt ∧ a.toInt ≤ 1000000000) : (jrem a b).toInt = a.toInt.tmod b.toInt := by
  unfold jrem
  have h1 := tdiv_mul_le a.toInt b.toInt
  have h2 : (a / b * b).toInt = a.toInt.tdiv b.toInt * b.toInt := by
    rw [ti_mul (by rw [ti_div (by omega)]; omega) (by rw [ti_div (by omega)]; omega), ti_div (by omega)]
  rw [ti_sub (by rw [h2]; omega) (by rw [h2]; omega), h2, Int.tmod_def, Int.mul_comm]
theorem t10 : (10 : Int64).toInt = 10 := by decide
theorem ql_d10 {a : Int64} {m : Nat} (h : a.toInt = m) (hm : m ≤ 1000000000000000000) : (a / 10).toInt = ((m / 10 : Nat) : Int) := by
  rw [tl_div (by omega), h, t10]
  rfl
theorem ql_r10 {a : Int64} {m : Nat} (h : a.toInt = m) (hm : m ≤ 1000000000000000000) : (jreml a 10).toInt = ((m % 10 : Nat) : Int) := by
  rw [tl_rem (by omega), h, t10]
  rfl
theorem lp_dig (a0 a1 : Int64) : ∀ r m L K fuel, Int64.toInt L = (m : Nat) → m ≤ 1000000 → 0 ≤ Int64.toInt K → K.toInt + (r : Nat) = a0.toInt → a0.toInt ≤ 1000 → r < fuel → ∃ w, lp (fun s => lbX12_digitOf_33 a0 a1 s.1 s.2) fuel (L, K) = some w ∧ w.toInt = ((m / 10 ^ r % 10 : Nat) : Int) := by
  intro r
  induction r with
  | zero =>
    intro m L K fuel hL hm hK0 hK ha hf
    obtain ⟨k, rfl⟩ : ∃ k, fuel = k + 1 := ⟨fuel - 1, by omega⟩
    refine ⟨jreml L 10, lp_e ?_, ?_⟩
    · show lbX12_digitOf_33 a0 a1 L K = _
      unfold lbX12_digitOf_33
      rw [if_pos (by rw [lc_ge]; omega)]
    · rw [ql_r10 hL (by omega)]
      simp
  | succ r ih =>
    intro m L K fuel hL hm hK0 hK ha hf
    obtain ⟨k, rfl⟩ : ∃ k, fuel = k + 1 := ⟨fuel - 1, by omega⟩
    have hs : lbX12_digitOf_33 a0 a1 L K = some (.inl (L / 10, K + 1)) := by
      unfold lbX12_digitOf_33
      rw [if_neg (by rw [lc_ge]; omega)]
    have e1 : (1 : Int64).toInt = 1 := by decide
    have hK1 : (K + 1).toInt = K.toInt + 1 := by rw [tl_add (by rw [e1]; omega) (by rw [e1]; omega), e1]
    obtain ⟨w, h1, h2⟩ := ih (m / 10) (L / 10) (K + 1) k (ql_d10 hL (by omega)) (by omega) (by omega) (by omega) ha (by omega)
    refine ⟨w, by rw [lp_l (s' := (L / 10, K + 1)) hs]; exact h1, ?_⟩
    rw [h2, Nat.div_div_eq_div_mul, Nat.pow_succ, Nat.mul_comm 10]
theorem q_digM {a b : Int64} (ha : -1000000 ≤ a.toInt ∧ a.toInt ≤ 1000000) (hb : -1000000 ≤ b.toInt ∧ b.toInt ≤ 1000000) : ∃ w, fX12_digitOf a b = some w ∧ w.toInt = ez_dig a.toInt b.toInt := by
  have e0 : (0 : Int64).toInt = 0 := by decide
  have e9 : (9 : Int64).toInt = 9 := by decide
  unfold fX12_digitOf jjX12_digitOf_28
  simp only [lc_lt, lc_le, lc_ge, e0, e9]
  by_cases h0 : a.toInt < 0
  · rw [if_pos h0]
    refine ⟨0, rfl, ?_⟩
    unfold ez_dig
    rw [if_pos (Or.inl h0)]
    rfl
  rw [if_neg h0]
  by_cases h9 : a.toInt ≤ 9
  · rw [if_pos h9]
    have key : ∀ L : Int64, L.toInt = (b.toInt.natAbs : Int) → ∃ w, ((lp (fun s => lbX12_digitOf_33 a b s.1 s.2) go_fuel (L, 0)).bind fun ρ1 => some ρ1) = some w ∧ w.toInt = ez_dig a.toInt b.toInt := fun L hL => by
      obtain ⟨w, h1, h2⟩ := lp_dig a b a.toInt.toNat b.toInt.natAbs L 0 go_fuel hL (by omega) (by rw [e0]; omega) (by rw [e0]; omega) (by omega) (by unfold go_fuel; omega)
      refine ⟨w, by rw [h1]; rfl, ?_⟩
      rw [h2]
      unfold ez_dig
      by_cases h7 : 7 ≤ a.toInt
      · rw [if_pos (Or.inr h7)]
        have hp : 10 ^ 7 ≤ 10 ^ a.toInt.toNat := Nat.pow_le_pow_right (by decide) (by omega)
        rw [Nat.div_eq_of_lt (by omega)]
        rfl
      · rw [if_neg (by omega)]
    by_cases hn : 0 ≤ b.toInt
    · rw [if_pos hn]
      exact key b (by omega)
    · rw [if_neg hn]
      exact key (-b) (by rw [tl_neg (by omega)]; omega)
  · rw [if_neg h9]
    refine ⟨0, rfl, ?_⟩
    unfold ez_dig
    rw [if_pos (by omega)]
    rfl
theorem q_two {op : Nat} {a b : Int64} (hop : op < 64) (ha : -1000000 ≤ a.toInt ∧ a.toInt ≤ 1000000) (hb : -1000000 ≤ b.toInt ∧ b.toInt ≤ 1000000) : ∃ w, fX12_two (nI op) a b = some w ∧ w.toInt = (if op = 6 then ez_clip (a.toInt + b.toInt) else if op = 7 then ez_clip (a.toInt - b.toInt) else if op = 8 then ez_clip (a.toInt * b.toInt) else if b.toInt = 0 then 0 else ez_clip (a.toInt.tdiv b.toInt)) := by
  have ne : ∀ k, k < 64 → op ≠ k → ¬ nI op = (OfNat.ofNat k : Int32) := fun k hk h q => h ((eq_l (n := k) (by omega) (by omega)).mp q)
  have e0 : (0 : Int64).toInt = 0 := by decide
  have m := ez_mulb (a := a.toInt) (b := b.toInt) (by omega) (by omega)
  unfold fX12_two
  by_cases c6 : op = 6
  · rw [if_pos (by rw [c6]; rfl), if_pos c6]
    exact ⟨_, rfl, by rw [q_clip, tl_add (by omega) (by omega)]⟩
  rw [if_neg (ne 6 (by omega) c6), if_neg c6]
  by_cases c7 : op = 7
  · rw [if_pos (by rw [c7]; rfl), if_pos c7]
    exact ⟨_, rfl, by rw [q_clip, tl_sub (by omega) (by omega)]⟩
  rw [if_neg (ne 7 (by omega) c7), if_neg c7]
  by_cases c8 : op = 8
  · rw [if_pos (by rw [c8]; rfl), if_pos c8]
    exact ⟨_, rfl, by rw [q_clip, tl_mul (by omega) (by omega)]⟩
  rw [if_neg (ne 8 (by omega) c8), if_neg c8]
  simp only [lc_eq, e0]
  by_cases hz : b.toInt = 0
  · rw [if_pos hz, if_pos hz]
    exact ⟨0, rfl, e0⟩
  · rw [if_neg hz, if_neg hz]
    unfold go_nzl
    rw [if_neg (by rw [eq_L, e0]; exact hz)]
    exact ⟨_, rfl, by rw [q_clip, tl_div (by omega)]⟩
theorem q_asked {op : Nat} {a b : Int64} (hop : op < 64) : fX12_isAsked (nI op) a b = if (if op = 10 then decide (a.toInt < b.toInt) else if op = 11 then decide (a.toInt ≤ b.toInt) else if op = 12 then decide (b.toInt < a.toInt) else if op = 13 then decide (b.toInt ≤ a.toInt) else if op = 14 then decide (a.toInt = b.toInt) else decide (a.toInt ≠ b.toInt)) = true then 1 else 0 := by
  have ne : ∀ k, k < 64 → op ≠ k → ¬ nI op = (OfNat.ofNat k : Int32) := fun k hk h q => h ((eq_l (n := k) (by omega) (by omega)).mp q)
  have fl : ∀ {p : Prop} [Decidable p] {b : Bool}, (p ↔ b = false) → (if p then (0 : Int32) else 1) = if b = true then 1 else 0 := fun {p _ b} h => by
    cases b with
    | false => rw [if_pos (h.mpr rfl), if_neg (by decide)]
    | true => rw [if_neg (fun q => absurd (h.mp q) (by decide)), if_pos rfl]
  unfold fX12_isAsked
  simp only [lc_ge, lc_gt, lc_le, lc_lt, lc_eq]
  by_cases c : op = 10
  · rw [if_pos (by rw [c]; rfl), if_pos c]
    exact fl (by rw [decide_eq_false_iff_not]; omega)
  rw [if_neg (ne 10 (by omega) c), if_neg c]
  by_cases c : op = 11
  · rw [if_pos (by rw [c]; rfl), if_pos c]
    exact fl (by rw [decide_eq_false_iff_not]; omega)
  rw [if_neg (ne 11 (by omega) c), if_neg c]
  by_cases c : op = 12
  · rw [if_pos (by rw [c]; rfl), if_pos c]
    exact fl (by rw [decide_eq_false_iff_not]; omega)
  rw [if_neg (ne 12 (by omega) c), if_neg c]
  by_cases c : op = 13
  · rw [if_pos (by rw [c]; rfl), if_pos c]
    exact fl (by rw [decide_eq_false_iff_not]; omega)
  rw [if_neg (ne 13 (by omega) c), if_neg c]
  by_cases c : op = 14
  · rw [if_pos (by rw [c]; rfl), if_pos c]
    by_cases e : a.toInt = b.toInt
    · rw [if_pos e, if_pos (decide_eq_true e)]
    · rw [if_neg e, if_neg (by simp [e])]
  rw [if_neg (ne 14 (by omega) c), if_neg c]
  exact fl (by rw [decide_eq_false_iff_not]; omega)
def MV (μ : PM) (vs : List Int) : Prop := ∀ i, i < vs.length → (μ.2 408 (vs.length - 1 - i)).toInt = vs.getD i 0
def MT (μ : PM) (tr : List Bool) : Prop := ∀ i, i < tr.length → μ.1 409 (tr.length - 1 - i) = if tr.getD i false = true then 1 else 0
theorem MV_top {μ : PM} {x : Int} {st : List Int} (h : MV μ (x :: st)) : (μ.2 408 st.length).toInt = x := by
  have := h 0 (by simp)
  simpa using this
theorem MV_tl {μ : PM} {x : Int} {st : List Int} (h : MV μ (x :: st)) : MV μ st := by
  intro i hi
  have := h (i + 1) (by simp only [List.length_cons]; omega)
  simp only [List.length_cons, List.getD_cons_succ] at this
  rw [show st.length + 1 - 1 - (i + 1) = st.length - 1 - i by omega] at this
  exact this
theorem MV_push {μ : PM} {v : Int64} {x : Int} {st : List Int} (h : MV μ st) (hv : v.toInt = x) : MV (pm_wl μ 408 st.length v) (x :: st) := by
  intro i hi
  cases i with
  | zero =>
    simp only [List.length_cons, Nat.add_sub_cancel, Nat.sub_zero, List.getD_cons_zero]
    rw [wl_r, if_pos ⟨rfl, rfl⟩, hv]
  | succ i =>
    simp only [List.length_cons] at hi
    simp only [List.length_cons, List.getD_cons_succ]
    rw [wl_r, if_neg (by omega), show st.length + 1 - 1 - (i + 1) = st.length - 1 - i by omega]
    exact h i (by omega)
theorem MT_top {μ : PM} {x : Bool} {st : List Bool} (h : MT μ (x :: st)) : μ.1 409 st.length = if x = true then 1 else 0 := by
  have := h 0 (by simp)
  simpa using this
theorem MT_tl {μ : PM} {x : Bool} {st : List Bool} (h : MT μ (x :: st)) : MT μ st := by
  intro i hi
  have := h (i + 1) (by simp only [List.length_cons]; omega)
  simp only [List.length_cons, List.getD_cons_succ] at this
  rw [show st.length + 1 - 1 - (i + 1) = st.length - 1 - i by omega] at this
  exact this
theorem MT_push {μ : PM} {v : Int32} {x : Bool} {st : List Bool} (h : MT μ st) (hv : v = if x = true then 1 else 0) : MT (pm_wi μ 409 st.length v) (x :: st) := by
  intro i hi
  cases i with
  | zero =>
    simp only [List.length_cons, Nat.add_sub_cancel, Nat.sub_zero, List.getD_cons_zero]
    rw [wi_e, hv]
  | succ i =>
    simp only [List.length_cons] at hi
    simp only [List.length_cons, List.getD_cons_succ]
    rw [wi_i (by omega), show st.length + 1 - 1 - (i + 1) = st.length - 1 - i by omega]
    exact h i (by omega)
def MB (vs : List Int) : Prop := ∀ x ∈ vs, -1000000 ≤ x ∧ x ≤ 1000000
theorem MB_tl {x : Int} {st : List Int} (h : MB (x :: st)) : MB st := fun y hy => h y (List.mem_cons_of_mem _ hy)
theorem MB_push {x : Int} {st : List Int} (h : MB st) (hx : -1000000 ≤ x ∧ x ≤ 1000000) : MB (x :: st) := fun y hy => by
  rcases List.mem_cons.mp hy with rfl | hy
  · exact hx
  · exact h y hy
theorem q_joined {op : Nat} (hop : op < 64) (a b : Bool) : fX12_joined (nI op) (if a = true then 1 else 0) (if b = true then 1 else 0) = if (if op = 21 then a && b else a || b) = true then 1 else 0 := by
  unfold fX12_joined
  by_cases c : op = 21
  · rw [if_pos (by rw [c]; rfl), if_pos c]
    cases a <;> cases b <;> rfl
  · rw [if_neg (fun q => c ((eq_l (n := 21) (by omega) (by omega)).mp q)), if_neg c]
    cases a <;> cases b <;> rfl
