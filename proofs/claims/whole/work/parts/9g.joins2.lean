/-! ===== the pairs, one behind the other ===== -/
def vc (a : Nat → Int32) (N : Nat) (t : Nat → Nat) (s i k : Nat) : Prop := vp a N s i k ∧ t (rm (rm s i) k) + 1 = t s
def LV (a : Nat → Int32) (N H : Nat) (t : Nat → Nat) (s i k : Nat) : Prop := i < H ∧ k < H ∧ vc a N t s i k ∧ ∀ i' k', i' < H → k' < H → (i' < i ∨ (i' = i ∧ k' < k)) → ¬ vc a N t s i' k'
section JP
variable {a : Nat → Int32} {N H : Nat} {t : Nat → Nat}
theorem LV_u {s i k i' k' : Nat} (h : LV a N H t s i k) (h' : LV a N H t s i' k') : i = i' ∧ k = k' := by
  have h1 := h'.2.2.2 i k h.1 h.2.1
  have h2 := h.2.2.2 i' k' h'.1 h'.2.1
  by_cases c : i' < i ∨ (i' = i ∧ k' < k)
  · exact absurd h'.2.2.1 (h2 c)
  · by_cases c2 : i < i' ∨ (i = i' ∧ k < k')
    · exact absurd h.2.2.1 (h1 c2)
    · omega
theorem vc_next (hH : H ≤ 8) (ht : ∀ s, s < 2 ^ H → tbR a N H t s) {s i k : Nat} (hs : s < 2 ^ H) (h : vc a N t s i k) (hi : i < H) (hk : k < H) {i' k' : Nat} (hi' : i' < H) (hk' : k' < H) (hv : vc a N t (rm (rm s i) k) i' k') : vc a N t s i' k' ∧ ¬ (i' = i ∧ k' = k) := by
  have b2 : ∀ j, j < 32 → (rm (rm s i) k).testBit j = (s.testBit j && !decide (j = i) && !decide (j = k)) := fun j hj => by rw [rm_bit _ _ hj, rm_bit _ _ hj]
  obtain ⟨⟨v1, v2, v3, v4⟩, v5⟩ := hv
  rw [b2 i' (by omega), Bool.and_eq_true, Bool.and_eq_true] at v2
  rw [b2 k' (by omega), Bool.and_eq_true, Bool.and_eq_true] at v3
  have ii : i' ≠ i := fun q => by have := v2.1.2; simp [q] at this
  have ik : i' ≠ k := fun q => by have := v2.2; simp [q] at this
  have ki : k' ≠ i := fun q => by have := v3.1.2; simp [q] at this
  have kk : k' ≠ k := fun q => by have := v3.2; simp [q] at this
  have hp : vp a N s i' k' := ⟨v1, v2.1.1, v3.1.1, v4⟩
  refine ⟨⟨hp, ?_⟩, fun q => ii q.1⟩
  have hp2 : vp a N (rm (rm s i') k') i k := ⟨h.1.1, by rw [rm_bit _ _ (by omega), rm_bit _ _ (by omega), h.1.2.1]; have q1 : ¬ i = i' := fun q => ii q.symm; have q2 : ¬ i = k' := fun q => ki q.symm; simp [q1, q2], by rw [rm_bit _ _ (by omega), rm_bit _ _ (by omega), h.1.2.2.1]; have q1 : ¬ k = i' := fun q => ik q.symm; have q2 : ¬ k = k' := fun q => kk q.symm; simp [q1, q2], h.1.2.2.2⟩
  have h1 := (ht (rm (rm s i') k') (rm_b (rm_b hs))).1 i k hi hk hp2
  have h2 := (ht s hs).1 i' k' hi' hk' hp
  have e : rm (rm (rm (rm s i) k) i') k' = rm (rm (rm (rm s i') k') i) k := by
    rw [rm_comm (rm s i) k i', rm_comm s i i', rm_comm (rm (rm s i') i) k k', rm_comm (rm s i') i k']
  have h3 := h.2
  rw [e] at v5
  omega
theorem ex_vc (ht : ∀ s, s < 2 ^ H → tbR a N H t s) {s : Nat} (hs : s < 2 ^ H) (h0 : t s ≠ 0) : ∃ i k, i < H ∧ k < H ∧ vc a N t s i k := by
  rcases (ht s hs).2.1 with q | ⟨i, k, hi, hk, hv, he⟩
  · exact absurd q h0
  · exact ⟨i, k, hi, hk, hv, he.symm⟩
/-- a chain of lowest pairs -/
def chn (a : Nat → Int32) (N H : Nat) (t : Nat → Nat) (σ : Nat → Nat) (n : Nat) : Prop := σ 0 = 2 ^ H - 1 ∧ ∀ m, m < n → ∃ i k, LV a N H t (σ m) i k ∧ σ (m + 1) = rm (rm (σ m) i) k
theorem chn_lt {σ : Nat → Nat} {n : Nat} (h : chn a N H t σ n) : ∀ m, m ≤ n → σ m < 2 ^ H := by
  intro m
  induction m with
  | zero => intro _; rw [h.1]; have : 1 ≤ 2 ^ H := Nat.one_le_two_pow; omega
  | succ m ih =>
    intro hm
    obtain ⟨i, k, -, e⟩ := h.2 m (by omega)
    rw [e]
    exact rm_b (rm_b (ih (by omega)))
theorem chn_t {σ : Nat → Nat} {n : Nat} (h : chn a N H t σ n) : ∀ m, m ≤ n → t (σ m) + m = t (2 ^ H - 1) := by
  intro m
  induction m with
  | zero => intro _; rw [h.1, Nat.add_zero]
  | succ m ih =>
    intro hm
    obtain ⟨i, k, lv, e⟩ := h.2 m (by omega)
    have h1 := ih (by omega)
    have h2 := lv.2.2.1.2
    rw [e]
    omega
theorem chn_u {σ σ' : Nat → Nat} {n n' : Nat} (h : chn a N H t σ n) (h' : chn a N H t σ' n') : ∀ m, m ≤ n → m ≤ n' → σ m = σ' m := by
  intro m
  induction m with
  | zero => intro _ _; rw [h.1, h'.1]
  | succ m ih =>
    intro h1 h2
    obtain ⟨i, k, lv, e⟩ := h.2 m (by omega)
    obtain ⟨i', k', lv', e'⟩ := h'.2 m (by omega)
    have := ih (by omega) (by omega)
    rw [← this] at lv' e'
    obtain ⟨q1, q2⟩ := LV_u lv lv'
    rw [e, e', q1, q2]
theorem bits2 {s i k : Nat} (hs : s < 256) (hi : i < 8) (hk : k < 8) : s &&& ((2 ^ i ||| 2 ^ k) ^^^ 4294967295) = rm (rm s i) k := by
  apply Nat.eq_of_testBit_eq
  intro j
  by_cases hj : j < 32
  · rw [rm_bit _ _ hj, rm_bit _ _ hj, Nat.testBit_and, Nat.testBit_xor, Nat.testBit_or, Nat.testBit_two_pow, Nat.testBit_two_pow, show (4294967295 : Nat) = 2 ^ 32 - 1 from rfl, Nat.testBit_two_pow_sub_one, decide_eq_true hj]
    have e1 : decide (i = j) = decide (j = i) := decide_eq_decide.mpr ⟨fun q => q.symm, fun q => q.symm⟩
    have e2 : decide (k = j) = decide (j = k) := decide_eq_decide.mpr ⟨fun q => q.symm, fun q => q.symm⟩
    rw [e1, e2]
    cases s.testBit j <;> cases decide (j = i) <;> cases decide (j = k) <;> rfl
  · have h2 : s.testBit j = false := Nat.testBit_lt_two_pow (Nat.lt_of_lt_of_le hs (Nat.le_trans (show 256 ≤ 2 ^ 8 by decide) (Nat.pow_le_pow_right (by decide) (by omega))))
    have h3 : rm (rm s i) k < 256 := Nat.lt_of_le_of_lt (Nat.le_trans (rm_le _ _) (rm_le _ _)) hs
    have h4 : (rm (rm s i) k).testBit j = false := Nat.testBit_lt_two_pow (Nat.lt_of_lt_of_le h3 (Nat.le_trans (show 256 ≤ 2 ^ 8 by decide) (Nat.pow_le_pow_right (by decide) (by omega))))
    rw [Nat.testBit_and, h2, h4]
    rfl
theorem bits_in {s i k : Nat} (hi : i < 8) (hk : k < 8) : s &&& (2 ^ i ||| 2 ^ k) = 2 ^ i ||| 2 ^ k ↔ (s.testBit i = true ∧ s.testBit k = true) := by
  constructor
  · intro h
    refine ⟨?_, ?_⟩
    · have := congrArg (fun x => Nat.testBit x i) h
      simp only [Nat.testBit_and, Nat.testBit_or, Nat.testBit_two_pow, decide_true, Bool.true_or, Bool.and_true] at this
      exact this
    · have := congrArg (fun x => Nat.testBit x k) h
      simp only [Nat.testBit_and, Nat.testBit_or, Nat.testBit_two_pow, decide_true, Bool.or_true, Bool.and_true] at this
      exact this
  · rintro ⟨h1, h2⟩
    apply Nat.eq_of_testBit_eq
    intro j
    rw [Nat.testBit_and, Nat.testBit_or, Nat.testBit_two_pow, Nat.testBit_two_pow]
    by_cases c1 : i = j
    · subst c1; rw [h1]; simp
    · by_cases c2 : k = j
      · subst c2; rw [h2]; simp
      · simp [c1, c2]
def jval (a : Nat → Int32) (N i k : Nat) : Int32 := 100 * nI i + 10 * nI k + enc (jn a N i k)
/-- the class's pass -/
theorem q_pass {μ0 : PM} (hN : N ≤ 6) (hH : H ≤ 8) (ht : ∀ s, s < 2 ^ H → tbR a N H t s) (hJ : ∀ i k, i < H → k < H → μ0.1 395 (i * 8 + k) = enc (jc a N i k)) (hM : ∀ s, s < 2 ^ H → μ0.1 396 s = nI (t s)) (h0 : μ0.1 394 4 = 0) :
    ∃ μ' σ, lp (fun q : Int32 × Int32 × PM => lbX1_join_36 (nI H) q.1 q.2.1 q.2.2) go_fuel (nI (2 ^ H - 1), 0, μ0) = some μ' ∧ (∀ c, c ≠ 394 → c ≠ 397 → μ'.1 c = μ0.1 c) ∧ μ'.2 = μ0.2 ∧ μ'.1 394 4 = nI (t (2 ^ H - 1)) ∧ t (2 ^ H - 1) ≤ 4 ∧ chn a N H t σ (t (2 ^ H - 1)) ∧ ∀ m, m < t (2 ^ H - 1) → ∃ i k, LV a N H t (σ m) i k ∧ μ'.1 397 m = jval a N i k := by
  have hp : 2 ^ H ≤ 2 ^ 8 := Nat.pow_le_pow_right (by decide) hH
  have hp1 : 1 ≤ 2 ^ H := Nat.one_le_two_pow
  have tle : ∀ s, s < 2 ^ H → t s ≤ 4 := fun s hs => by
    have h1 := (ht s hs).2.2
    have h2 := pc8_le s
    omega
  have htall := tle (2 ^ H - 1) (by omega)
  -- what holds at a place
  obtain ⟨INV, hINV⟩ : ∃ INV : Nat → Nat → Int32 → PM → Prop, ∀ i k v μ, INV i k v μ ↔ ∃ (n : Nat) (σ : Nat → Nat), v = nI (σ n) ∧ chn a N H t σ n ∧ (∀ c, c ≠ 394 → c ≠ 397 → μ.1 c = μ0.1 c) ∧ μ.2 = μ0.2 ∧ μ.1 394 4 = nI n ∧ (∀ m, m < n → ∃ i k, LV a N H t (σ m) i k ∧ μ.1 397 m = jval a N i k) ∧ ∀ i' k', i' < H → k' < H → (i' < i ∨ (i' = i ∧ k' < k)) → ¬ vc a N t (σ n) i' k' := ⟨fun i k v μ => _, fun i k v μ => Iff.rfl⟩
  have step : ∀ i k v μ, i < H → k < H → INV i k v μ → ∃ v' μ', lbX1_join_44 (nI H) (nI i) v (nI k) μ = some (.inl (v', nI (k + 1), μ')) ∧ INV i (k + 1) v' μ' := fun i k v μ hi hk hI => by
    obtain ⟨n, σ, rfl, hch, f1, f2, f3, f4, f5⟩ := (hINV _ _ _ _).mp hI
    have hS := chn_lt hch n (Nat.le_refl _)
    have hT := chn_t hch n (Nat.le_refl _)
    have e395 := f1 395 (by omega) (by omega)
    have e396 := f1 396 (by omega) (by omega)
    have skip : ¬ vc a N t (σ n) i k → INV i (k + 1) (nI (σ n)) μ := fun hn => (hINV _ _ _ _).mpr ⟨n, σ, rfl, hch, f1, f2, f3, f4, fun i' k' hi' hk' hlt hv => by
      by_cases e : i' = i ∧ k' = k
      · rw [e.1, e.2] at hv; exact hn hv
      · exact f5 i' k' hi' hk' (by omega) hv⟩
    unfold lbX1_join_44
    simp only [go_let]
    rw [if_neg (by rw [le_n (by omega) (by omega)]; omega), nb_shl i (by omega), nb_shl k (by omega), nx_or, mul_l 8, nI_add, chk_n (show i * 8 + k < 64 by omega) (by omega), cl_n (show i * 8 + k < 2147483648 by omega), e395, hJ i k hi hk, add_l 1]
    cases hj : jc a N i k with
    | none =>
      rw [if_pos (show enc none = -1 from rfl)]
      refine ⟨_, _, rfl, skip (fun q => ?_)⟩
      rw [jc_n q.1.1] at hj
      exact q.1.2.2.2 hj
    | some nm =>
      have hnm := jc_lt hj
      have hik : i ≠ k := fun q => by rw [q, jc_e] at hj; cases hj
      rw [jc_n hik] at hj
      rw [if_neg (enc_n1 (by omega)), nx_and, show (-1 : Int32) = nI 4294967295 from rfl, nx_xor, nx_and, bits2 (by omega) (by omega) (by omega)]
      have hor : 2 ^ i ||| 2 ^ k < 2 ^ 8 := Nat.or_lt_two_pow (Nat.pow_lt_pow_right (by decide) (by omega)) (Nat.pow_lt_pow_right (by decide) (by omega))
      have hand : σ n &&& (2 ^ i ||| 2 ^ k) ≤ σ n := Nat.and_le_left
      have hin : nI (σ n &&& (2 ^ i ||| 2 ^ k)) = nI (2 ^ i ||| 2 ^ k) ↔ ((σ n).testBit i = true ∧ (σ n).testBit k = true) := by
        rw [eq_n (by omega) (by omega)]
        exact bits_in (by omega) (by omega)
      by_cases c1 : (σ n).testBit i = true ∧ (σ n).testBit k = true
      case neg =>
        rw [if_neg (fun q => c1 (hin.mp q))]
        exact ⟨_, _, rfl, skip (fun q => c1 ⟨q.1.2.1, q.1.2.2.1⟩)⟩
      have hv : vp a N (σ n) i k := ⟨hik, c1.1, c1.2, by rw [hj]; exact fun q => by cases q⟩
      have hrb : rm (rm (σ n) i) k < 2 ^ H := rm_b (rm_b hS)
      have hr4 := tle _ hrb
      have hs4 := tle _ hS
      rw [if_pos (hin.mpr c1), chk_n (show rm (rm (σ n) i) k < 256 by omega) (by omega), chk_n (show σ n < 256 by omega) (by omega), cl_n (show rm (rm (σ n) i) k < 2147483648 by omega), cl_n (show σ n < 2147483648 by omega), e396, hM _ hrb, hM _ hS, add_l 1]
      have heq : nI (t (rm (rm (σ n) i) k) + 1) = nI (t (σ n)) ↔ t (rm (rm (σ n) i) k) + 1 = t (σ n) := eq_n (by omega) (by omega)
      by_cases c2 : t (rm (rm (σ n) i) k) + 1 = t (σ n)
      case neg =>
        rw [if_neg (fun q => c2 (heq.mp q))]
        exact ⟨_, _, rfl, skip (fun q => c2 q.2)⟩
      have hn4 : n < 4 := by omega
      rw [if_pos (heq.mpr c2), f3, if_neg (show ¬ (4 : Int32) ≤ nI n by rw [l_le (n := 4) (by omega) (by omega)]; omega), chk_n hn4 (by omega), cl_n (show n < 2147483648 by omega), wi_c (show (394 : Nat) ≠ 397 by omega), f3, add_l 1]
      have hvc : vc a N t (σ n) i k := ⟨hv, c2⟩
      have hLV : LV a N H t (σ n) i k := ⟨hi, hk, hvc, fun i' k' hi' hk' hlt => f5 i' k' hi' hk' hlt⟩
      refine ⟨_, _, rfl, (hINV _ _ _ _).mpr ⟨n + 1, fun m => if m = n + 1 then rm (rm (σ n) i) k else σ m, by dsimp only; rw [if_pos rfl], ⟨?_, fun m hm => ?_⟩, fun c h1 h2 => ?_, f2, wi_e, fun m hm => ?_, fun i' k' hi' hk' hlt hv' => ?_⟩⟩
      · dsimp only
        rw [if_neg (by omega)]
        exact hch.1
      · dsimp only
        rw [if_neg (show ¬ m = n + 1 by omega)]
        by_cases e : m = n
        · subst e
          exact ⟨i, k, hLV, by rw [if_pos rfl]⟩
        · rw [if_neg (by omega)]
          exact hch.2 m (by omega)
      · rw [wi_c h1, wi_c h2]; exact f1 c h1 h2
      · dsimp only
        rw [if_neg (show ¬ m = n + 1 by omega), wi_c (by omega)]
        by_cases e : m = n
        · subst e
          exact ⟨i, k, hLV, by rw [wi_e]; unfold jval; rw [hj]⟩
        · rw [wi_i e]
          exact f4 m (by omega)
      · dsimp only at hv'
        rw [if_pos rfl] at hv'
        obtain ⟨w1, w2⟩ := vc_next hH ht hS hvc hi hk hi' hk' hv'
        exact f5 i' k' hi' hk' (by omega) w1
  have inner : ∀ i v μ, i < H → INV i 0 v μ → ∃ v' μ', lp (fun q : Int32 × Int32 × PM => lbX1_join_44 (nI H) (nI i) q.1 q.2.1 q.2.2) go_fuel (v, 0, μ) = some (.inl (v', μ')) ∧ INV (i + 1) 0 v' μ' := fun i v μ hi hI => by
    obtain ⟨r, g1, v', μ', rfl, g2⟩ := lp_inv (f := fun q : Int32 × Int32 × PM => lbX1_join_44 (nI H) (nI i) q.1 q.2.1 q.2.2) (fun q => ∃ k : Nat, k ≤ H ∧ q.2.1 = nI k ∧ INV i k q.1 q.2.2) (fun q => H - q.2.1.toNatClampNeg) (fun r => ∃ v' μ', r = .inl (v', μ') ∧ INV (i + 1) 0 v' μ') (fun q hq => by
      obtain ⟨q0, q1, q2⟩ := q
      obtain ⟨k, hk, e, hI⟩ := hq
      have e : q1 = nI k := e
      have hI : INV i k q0 q2 := hI
      subst e
      dsimp only
      by_cases hlt : H ≤ k
      · right
        have : k = H := by omega
        subst this
        refine ⟨.inl (q0, q2), ?_, q0, q2, rfl, ?_⟩
        · unfold lbX1_join_44
          rw [if_pos (by rw [le_n (by omega) (by omega)]; omega)]
        · obtain ⟨n, σ, z1, z2, z3, z4, z5, z6, z7⟩ := (hINV _ _ _ _).mp hI
          exact (hINV _ _ _ _).mpr ⟨n, σ, z1, z2, z3, z4, z5, z6, fun i' k' hi' hk' hl => z7 i' k' hi' hk' (by omega)⟩
      · left
        obtain ⟨v', μ', w1, w2⟩ := step i k q0 q2 hi (by omega) hI
        refine ⟨_, w1, ⟨k + 1, by omega, rfl, w2⟩, ?_⟩
        show H - (nI (k + 1)).toNatClampNeg < H - (nI k).toNatClampNeg
        rw [cl_n (by omega), cl_n (by omega)]
        omega) go_fuel (v, 0, μ) ⟨0, by omega, rfl, hI⟩ (by show H - _ < go_fuel; unfold go_fuel; omega)
    exact ⟨v', μ', g1, g2⟩
  have hI0 : INV 0 0 (nI (2 ^ H - 1)) μ0 := (hINV _ _ _ _).mpr ⟨0, fun _ => 2 ^ H - 1, rfl, ⟨rfl, fun m hm => by omega⟩, fun _ _ _ => rfl, rfl, h0, fun m hm => by omega, fun i' k' _ _ hl => by omega⟩
  obtain ⟨r, g1, v, g2⟩ := lp_inv (f := fun q : Int32 × Int32 × PM => lbX1_join_36 (nI H) q.1 q.2.1 q.2.2) (fun q => ∃ i : Nat, i ≤ H ∧ q.2.1 = nI i ∧ INV i 0 q.1 q.2.2) (fun q => H - q.2.1.toNatClampNeg) (fun r => ∃ v, INV H 0 v r) (fun q hq => by
    obtain ⟨q0, q1, q2⟩ := q
    obtain ⟨i, hi, e, hI⟩ := hq
    have e : q1 = nI i := e
    have hI : INV i 0 q0 q2 := hI
    subst e
    dsimp only
    unfold lbX1_join_36
    have hle : nI H ≤ nI i ↔ H ≤ i := le_n (by omega) (by omega)
    by_cases hlt : H ≤ i
    · right
      have : i = H := by omega
      subst this
      rw [if_pos (hle.mpr hlt)]
      exact ⟨_, rfl, q0, hI⟩
    · left
      obtain ⟨v', μ', w1, w2⟩ := inner i q0 q2 (by omega) hI
      rw [if_neg (fun z => hlt (hle.mp z)), w1, Option.bind_some, add_l 1]
      refine ⟨_, rfl, ⟨i + 1, by omega, rfl, w2⟩, ?_⟩
      show H - (nI (i + 1)).toNatClampNeg < H - (nI i).toNatClampNeg
      rw [cl_n (by omega), cl_n (by omega)]
      omega) go_fuel (nI (2 ^ H - 1), 0, μ0) ⟨0, by omega, rfl, hI0⟩ (by show H - _ < go_fuel; unfold go_fuel; omega)
  obtain ⟨n, σ, z1, z2, z3, z4, z5, z6, z7⟩ := (hINV _ _ _ _).mp g2
  have hS := chn_lt z2 n (Nat.le_refl _)
  have hT := chn_t z2 n (Nat.le_refl _)
  have hz : t (σ n) = 0 := Classical.byContradiction fun q => by
    obtain ⟨i, k, hi, hk, hv⟩ := ex_vc ht hS q
    exact z7 i k hi hk (Or.inl hi) hv
  have hn : n = t (2 ^ H - 1) := by omega
  rw [hn] at z2 z5 z6
  exact ⟨r, σ, g1, z3, z4, z5, htall, z2, z6⟩
end JP
section JM
variable {μm : PM} {N H : Nat} {t : Nat → Nat}
/-- the reference's lowest pair -/
theorem q_lowM (hO : OB (μm.1 402)) (eN : μm.1 402 0 = nI N) (hN : N ≤ 6) (hH : H ≤ 8) (ht : ∀ s, s < 2 ^ H → tbR (μm.1 402) N H t s) (hM : ∀ s, s < 2 ^ H → μm.1 413 s = nI (t s)) {s : Nat} (hs : s < 2 ^ H) (h0 : t s ≠ 0) : ∃ i k, LV (μm.1 402) N H t s i k ∧ fX12_lowestPair μm (nI s) = some (nI (8 * i + k)) := by
  have hp : 2 ^ H ≤ 2 ^ 8 := Nat.pow_le_pow_right (by decide) hH
  have hbit : ∀ j, j < 8 → s.testBit j = true → j < H := fun j hj q => by
    refine Classical.byContradiction fun z => ?_
    have h1 : 2 ^ H ≤ 2 ^ j := Nat.pow_le_pow_right (by decide) (by omega)
    have h2 := Nat.testBit_lt_two_pow (x := s) (i := j) (by omega)
    rw [q] at h2
    cases h2
  have tle : ∀ s, s < 2 ^ H → t s ≤ 4 := fun s hs => by
    have h1 := (ht s hs).2.2
    have h2 := pc8_le s
    omega
  obtain ⟨i0, k0, hi0, hk0, hv0⟩ := ex_vc ht hs h0
  obtain ⟨r, g1, i, k, rfl, g2⟩ := lp_inv (f := fun q : Int32 => lbX12_lowestPair_2 μm (nI s) q) (fun q => ∃ c : Nat, c ≤ 8 * i0 + k0 ∧ q = nI c ∧ ∀ i k, i < 8 → k < 8 → 8 * i + k < c → ¬ vc (μm.1 402) N t s i k) (fun q => 64 - q.toNatClampNeg) (fun r => ∃ i k, r = nI (8 * i + k) ∧ LV (μm.1 402) N H t s i k) (fun q hq => by
    obtain ⟨c, hc, rfl, hlow⟩ := hq
    have hc64 : c < 64 := by omega
    have ei : nI c / 8 = nI (c / 8) := div_l (n := 8) (by omega) (by omega)
    have ek : jrem (nI c) 8 = nI (c % 8) := rem_l (n := 8) (by omega) (by omega)
    have hk8 : c % 8 < 8 := Nat.mod_lt _ (by decide)
    have hi8 : c / 8 < 8 := by omega
    have ec : 8 * (c / 8) + c % 8 = c := by omega
    have next : ¬ vc (μm.1 402) N t s (c / 8) (c % 8) → (∃ s', (some (Sum.inl (nI (c + 1))) : Option (Int32 ⊕ Int32)) = some (.inl s') ∧ (∃ c : Nat, c ≤ 8 * i0 + k0 ∧ s' = nI c ∧ ∀ i k, i < 8 → k < 8 → 8 * i + k < c → ¬ vc (μm.1 402) N t s i k) ∧ 64 - s'.toNatClampNeg < 64 - (nI c).toNatClampNeg) := fun hn => by
      have hne : c ≠ 8 * i0 + k0 := fun q => by
        have e1 : c / 8 = i0 := by omega
        have e2 : c % 8 = k0 := by omega
        rw [e1, e2] at hn
        exact hn hv0
      refine ⟨_, rfl, ⟨c + 1, by omega, rfl, fun i k hi hk hlt hv => ?_⟩, ?_⟩
      · by_cases e : 8 * i + k = c
        · have e1 : c / 8 = i := by omega
          have e2 : c % 8 = k := by omega
          rw [e1, e2] at hn
          exact hn hv
        · exact hlow i k hi hk (by omega) hv
      · rw [cl_n (by omega), cl_n (by omega)]
        omega
    unfold lbX12_lowestPair_2
    rw [if_neg (show ¬ (64 : Int32) ≤ nI c by rw [l_le (n := 64) (by omega) (by omega)]; omega), ei, ek, add_l 1]
    have hik : nI (c / 8) = nI (c % 8) ↔ c / 8 = c % 8 := eq_n (by omega) (by omega)
    by_cases c1 : c / 8 = c % 8
    · left
      rw [if_pos (hik.mpr c1)]
      exact next (fun q => q.1.1 c1)
    rw [if_neg (fun q => c1 (hik.mp q)), nb_has (by omega) (by omega), nb_has (by omega) (by omega), q_ite, q_ite]
    by_cases c2 : s.testBit (c / 8) = true
    case neg =>
      left
      rw [if_neg c2]
      exact next (fun q => c2 q.1.2.1)
    rw [if_pos c2]
    by_cases c3 : s.testBit (c % 8) = true
    case neg =>
      left
      rw [if_neg c3]
      exact next (fun q => c3 q.1.2.2.1)
    rw [if_pos c3, q_joinM hO eN hN hi8 hk8, Option.bind_some]
    cases hj : jn (μm.1 402) N (c / 8) (c % 8) with
    | none =>
      left
      rw [if_pos (show enc none = -1 from rfl)]
      exact next (fun q => q.1.2.2.2 hj)
    | some n =>
      have hn := jn_lt hj
      have hv : vp (μm.1 402) N s (c / 8) (c % 8) := ⟨c1, c2, c3, by rw [hj]; exact fun q => by cases q⟩
      have hrb : rm (rm s (c / 8)) (c % 8) < 2 ^ H := rm_b (rm_b hs)
      have hr4 := tle _ hrb
      have hs4 := tle _ hs
      rw [if_neg (enc_n1 (by omega)), nI_rm (show c / 8 < 31 by omega), nI_rm (show c % 8 < 31 by omega), chk_n (show rm (rm s (c / 8)) (c % 8) < 256 by omega) (by omega), chk_n (show s < 256 by omega) (by omega), cl_n (show rm (rm s (c / 8)) (c % 8) < 2147483648 by omega), cl_n (show s < 2147483648 by omega), hM _ hrb, hM _ hs, subm1 (show 1 ≤ t s by omega)]
      have heq : nI (t (rm (rm s (c / 8)) (c % 8))) = nI (t s - 1) ↔ t (rm (rm s (c / 8)) (c % 8)) + 1 = t s := by rw [eq_n (by omega) (by omega)]; omega
      by_cases c4 : t (rm (rm s (c / 8)) (c % 8)) + 1 = t s
      · right
        rw [if_pos (heq.mpr c4)]
        exact ⟨_, rfl, c / 8, c % 8, by rw [ec], hbit _ hi8 c2, hbit _ hk8 c3, ⟨hv, c4⟩, fun i' k' hi' hk' hl => hlow i' k' (by omega) (by omega) (by omega)⟩
      · left
        rw [if_neg (fun q => c4 (heq.mp q))]
        exact next (fun q => c4 q.2)) go_fuel 0 ⟨0, by omega, rfl, fun i k _ _ h => by omega⟩ (by show 64 - _ < go_fuel; unfold go_fuel; omega)
  refine ⟨i, k, g2, ?_⟩
  unfold fX12_lowestPair
  rw [g1]
  rfl
end JM
theorem c_joins (v : Int32) : BOTH (fun μ => fX11_joins μ v) (fun μ => fX12_joins μ v) := by
  intro μc μm h
  have hV := h.1.1
  have hO := h.1.2.2.2.1
  have hnb := ob_names hO
  have hhb := ob_halfCount hO
  obtain ⟨N, eN, hN, -⟩ := nz_of (v := μm.1 402 0) (k := 7) hnb.1 (by omega)
  obtain ⟨H, eH, hH, -⟩ := nz_of (v := μm.1 402 5) (k := 9) hhb.1 (by omega)
  have hp : 2 ^ H ≤ 2 ^ 8 := Nat.pow_le_pow_right (by decide) (by omega)
  have hp1 : 1 ≤ 2 ^ H := Nat.one_le_two_pow
  obtain ⟨μ1, t, l1, l2, l3⟩ := q_layP hO eN (by omega) eH (by omega)
  have ht : ∀ s, s < 2 ^ H → tbR (μm.1 402) N H t s := fun s hs => (l3 s hs).2
  have e402 := l2 402 (by omega)
  have e401 := l2 401 (by omega)
  have hEM : EM μm μ1 := ⟨⟨by rw [e401], by rw [e401], by rw [e401], by rw [e401]⟩, l2 403 (by omega), l2 404 (by omega), l2 405 (by omega), fun c hc => l2 c (by omega)⟩
  have tall : t (2 ^ H - 1) ≤ 4 := by
    have h1 := (ht (2 ^ H - 1) (by omega)).2.2
    have h2 := pc8_le (2 ^ H - 1)
    omega
  dsimp only
  unfold fX11_joins fX12_joins
  rw [l1, Option.bind_some]
  simp only [go_let]
  rw [e402, eH, nb_shl H (by omega), subm1 hp1, chk_n (show 2 ^ H - 1 < 256 by omega) (by omega), chk_n (show 2 ^ H - 1 < 256 by omega) (by omega), cl_n (show 2 ^ H - 1 < 2147483648 by omega), (l3 _ (by omega)).1]
  have tm1 : (-1 : Int32).toInt = -1 := rfl
  by_cases c0 : (-1 : Int32) ≤ v
  case neg =>
    have c0' : v.toInt < -1 := by rw [i_le, tm1] at c0; omega
    have hv1 : ¬ v = -1 := fun q => by rw [q] at c0'; exact absurd c0' (by decide)
    rw [if_neg c0, if_neg hv1, q_isIn, q_ite, if_neg (by show ¬ ((0 : Int) ≤ v.toInt ∧ _); omega)]
    exact ⟨-2, μc, μ1, rfl, rfl, RR_of h (EC.rfl' _) hEM (by rw [e402]; exact h.1) (by rw [e402])⟩
  have c0' : -1 ≤ v.toInt := by rw [i_le, tm1] at c0; exact c0
  -- the class
  have ej : jmin (μc.1 1 16) 8 = nI H := by
    rw [v1_halfCount hV, eH]
    unfold jmin
    rw [if_neg]
    rw [l_lt (n := 8) (by omega) (by omega)]
    omega
  obtain ⟨ν1, j1, j2, j3, j4⟩ := q_joints (μc := μc) (μm := μm) (H := H) hV hO h.1.2.2.2.2.2.2.2.2.2.2 eN (by omega) (by omega)
  obtain ⟨ν2, m1, m2, m3, m4⟩ := q_most (μ0 := ν1) (a := μm.1 402) (N := N) (by omega) (by omega) ht j4
  obtain ⟨ν3, σ, p1, p2, p3, p4, p5, p6, p7⟩ := q_pass (μ0 := pm_wi ν2 394 4 0) (a := μm.1 402) (N := N) (by omega) (by omega) ht (fun i k hi hk => by rw [wi_c (by omega), m2 395 (by omega)]; exact j4 i k hi hk) (fun s hs => by rw [wi_c (by omega)]; exact m4 s hs) wi_e
  have hjoin : fX1_join μc = some ν3 := by
    unfold fX1_join
    simp only [go_let]
    rw [ej, j1, Option.bind_some, m1, Option.bind_some, nb_shl H (by omega), subm1 hp1, p1]
    rfl
  have hfr : ∀ c, c < 394 ∨ 397 < c → ν3.1 c = μc.1 c := fun c hc => by rw [p2 c (by omega) (by omega), wi_c (by omega), m2 c (by omega), j2 c (by omega)]
  have hfr2 : ν3.2 = μc.2 := by rw [p3]; exact m3.trans j3
  have hfin := RR_of h (μc' := ν3) (μm' := μ1) ⟨hfr 0 (by omega), fun c h1 h2 => hfr c (by omega), fun c h1 h2 => hfr c (by omega), fun c h1 => hfr c (by omega), hfr2⟩ hEM (by rw [e402]; exact VV_eq h.1 (fun c h1 h2 => hfr c (by omega))) (by rw [e402])
  rw [if_pos c0, hjoin, Option.bind_some]
  by_cases c1 : v = -1
  · rw [if_pos c1, if_pos c1, p4]
    exact ⟨_, ν3, μ1, rfl, rfl, hfin⟩
  have c1' : ¬ v.toInt = -1 := fun q => c1 (i_eq.mpr q)
  rw [if_neg c1, if_neg c1, p4, q_isIn, q_ite]
  obtain ⟨q, rfl, hq, hq2⟩ := nz_of (v := v) (k := v.toInt + 1) (by omega) (by omega)
  have hqb : q < 2147483648 := by have := (nI q).toInt_lt; omega
  have t0 : (0 : Int32).toInt = 0 := rfl
  have t1 : (1 : Int32).toInt = 1 := rfl
  have tt : (nI (t (2 ^ H - 1)) - 1).toInt = (t (2 ^ H - 1) : Int) - 1 := by
    have := ti_n (k := t (2 ^ H - 1)) (by omega)
    rw [ti_sub (by rw [this, t1]; omega) (by rw [this, t1]; omega), this, t1]
  have hle : nI (t (2 ^ H - 1)) ≤ nI q ↔ t (2 ^ H - 1) ≤ q := le_n (by omega) hqb
  by_cases c2 : t (2 ^ H - 1) ≤ q
  · rw [if_pos (hle.mpr c2), if_neg (by rw [t0, tt, hq2]; omega)]
    exact ⟨_, ν3, μ1, rfl, rfl, hfin⟩
  rw [if_neg (fun z => c2 (hle.mp z)), if_neg (show ¬ (4 : Int32) ≤ nI q by rw [l_le (n := 4) hqb (by omega)]; omega), if_pos (by rw [t0, tt, hq2]; omega), chk_n (show q < 4 by omega) (by omega), cl_n hqb]
  have hO1 : OB (μ1.1 402) := by rw [e402]; exact hO
  have eN1 : μ1.1 402 0 = nI N := by rw [e402]; exact eN
  have ht1 : ∀ s, s < 2 ^ H → tbR (μ1.1 402) N H t s := fun s hs => by rw [e402]; exact ht s hs
  have low : ∀ m, m < t (2 ^ H - 1) → ∃ i k, LV (μm.1 402) N H t (σ m) i k ∧ fX12_lowestPair μ1 (nI (σ m)) = some (nI (8 * i + k)) ∧ σ (m + 1) = rm (rm (σ m) i) k ∧ ν3.1 397 m = jval (μm.1 402) N i k := fun m hm => by
    have hS := chn_lt p6 m (by omega)
    have hT := chn_t p6 m (by omega)
    obtain ⟨i, k, w1, w2⟩ := q_lowM (μm := μ1) hO1 eN1 (by omega) (by omega) ht1 (fun s hs => (l3 s hs).1) hS (by omega)
    rw [e402] at w1
    obtain ⟨i', k', x1, x2⟩ := p6.2 m hm
    obtain ⟨i2, k2, y1, y2⟩ := p7 m hm
    obtain ⟨z1, z2⟩ := LV_u w1 x1
    obtain ⟨z3, z4⟩ := LV_u w1 y1
    exact ⟨i, k, w1, w2, by rw [z1, z2]; exact x2, by rw [z3, z4]; exact y2⟩
  have hs0 : σ 0 = 2 ^ H - 1 := p6.1
  have walk : ∀ r m fuel, m + r = q → r < fuel → ∀ i k, LV (μm.1 402) N H t (σ m) i k → ∃ i' k', LV (μm.1 402) N H t (σ q) i' k' ∧ lp (fun s : Int32 × Int32 × Int32 => lbX12_joins_55 μ1 (nI q) s.1 s.2.1 s.2.2) fuel (nI (σ m), nI (8 * i + k), nI m) = some (.inl (nI (8 * i' + k'))) := by
    intro r
    induction r with
    | zero =>
      intro m fuel hm hf i k hlv
      obtain ⟨f, rfl⟩ : ∃ f, fuel = f + 1 := ⟨fuel - 1, by omega⟩
      have e : m = q := by omega
      subst e
      refine ⟨i, k, hlv, lp_e ?_⟩
      show lbX12_joins_55 μ1 (nI m) (nI (σ m)) (nI (8 * i + k)) (nI m) = _
      unfold lbX12_joins_55
      rw [if_pos (by rw [le_n (by omega) (by omega)]; omega)]
    | succ r ih =>
      intro m fuel hm hf i k hlv
      obtain ⟨f, rfl⟩ : ∃ f, fuel = f + 1 := ⟨fuel - 1, by omega⟩
      obtain ⟨i2, k2, w1, w2, w3, w4⟩ := low m (by omega)
      obtain ⟨z1, z2⟩ := LV_u hlv w1
      obtain ⟨i3, k3, y1, y2, y3, y4⟩ := low (m + 1) (by omega)
      have hi8 := hlv.1
      have hk8 := hlv.2.1
      have hb : lbX12_joins_55 μ1 (nI q) (nI (σ m)) (nI (8 * i + k)) (nI m) = some (.inl (nI (σ (m + 1)), nI (8 * i3 + k3), nI (m + 1))) := by
        unfold lbX12_joins_55
        simp only [go_let]
        have ei : nI (8 * i + k) / 8 = nI i := by rw [div_l (n := 8) (by omega) (by omega)]; congr 1; omega
        have ek : jrem (nI (8 * i + k)) 8 = nI k := by rw [rem_l (n := 8) (by omega) (by omega)]; congr 1; omega
        rw [if_neg (by rw [le_n (by omega) (by omega)]; omega), ei, ek, nb_shl i (by omega), nb_shl k (by omega), show (-1 : Int32) = nI 4294967295 from rfl, nx_xor, nx_xor, nx_and, nx_and, ← Nat.and_assoc]
        have er : (σ m &&& (2 ^ i ^^^ 4294967295)) &&& (2 ^ k ^^^ 4294967295) = σ (m + 1) := by rw [w3, ← z1, ← z2]; rfl
        rw [er, y2, Option.bind_some, add_l 1]
      rw [lp_l (s' := (nI (σ (m + 1)), nI (8 * i3 + k3), nI (m + 1))) hb]
      exact ih (m + 1) f (by omega) (by omega) i3 k3 y1
  obtain ⟨i0, k0, w1, w2, w3, w4⟩ := low 0 (by omega)
  rw [hs0] at w2
  obtain ⟨i, k, x1, x2⟩ := walk q 0 go_fuel (by omega) (by unfold go_fuel; omega) i0 k0 w1
  rw [hs0] at x2
  have x2 : lp (fun s : Int32 × Int32 × Int32 => lbX12_joins_55 μ1 (nI q) s.1 s.2.1 s.2.2) go_fuel (nI (2 ^ H - 1), nI (8 * i0 + k0), 0) = some (.inl (nI (8 * i + k))) := x2
  obtain ⟨i', k', y1, -, -, y4⟩ := low q (by omega)
  obtain ⟨z1, z2⟩ := LV_u x1 y1
  have hi8 := x1.1
  have hk8 := x1.2.1
  have ei : nI (8 * i + k) / 8 = nI i := by rw [div_l (n := 8) (by omega) (by omega)]; congr 1; omega
  have ek : jrem (nI (8 * i + k)) 8 = nI k := by rw [rem_l (n := 8) (by omega) (by omega)]; congr 1; omega
  rw [w2, Option.bind_some, x2, Option.bind_some]
  dsimp only [go_cs]
  rw [ei, ek, q_joinM hO1 eN1 (by omega) (by omega) (by omega), Option.bind_some, e402, y4, ← z1, ← z2]
  exact ⟨_, ν3, μ1, rfl, rfl, hfin⟩
