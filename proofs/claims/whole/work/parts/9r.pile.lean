/-! ===== the reference's pile ===== -/
/-- what waits, the latest first -/
def PLM (μ : PM) (q : List Nat) : Prop := μ.1 401 16 = nI q.length ∧ q.length ≤ 130 ∧ ∀ k, k < q.length → μ.1 406 (q.length - 1 - k) = nI (q.getD k 0) ∧ q.getD k 0 < 64
theorem q_rank : ∀ x, x < 64 → fX12_rank (nI x) = nI (az_rank x) ∧ az_rank x ≤ 7 := by decide +kernel
theorem fd_some {p : Nat → Bool} : ∀ (q : List Nat) (k : Nat), k < q.length → p (q.getD k 0) = true → (∀ j, j < k → p (q.getD j 0) = false) → q.find? p = some (q.getD k 0) := by
  intro q
  induction q with
  | nil => intro k hk; exact absurd hk (Nat.not_lt_zero k)
  | cons x q ih =>
    intro k hk h1 h2
    cases k with
    | zero =>
      have h1 : p x = true := h1
      show List.find? p (x :: q) = some x
      simp [List.find?, h1]
    | succ k =>
      have h0 : p x = false := h2 0 (by omega)
      have := ih k (by simpa using hk) h1 (fun j hj => h2 (j + 1) (by omega))
      show List.find? p (x :: q) = some (q.getD k 0)
      simp only [List.find?, h0]
      exact this
theorem fd_none {p : Nat → Bool} : ∀ (q : List Nat), (∀ j, j < q.length → p (q.getD j 0) = false) → q.find? p = none := by
  intro q
  induction q with
  | nil => intro _; rfl
  | cons x q ih =>
    intro h
    have h0 : p x = false := h 0 (by simp)
    have := ih (fun j hj => h (j + 1) (by simpa using hj))
    simp only [List.find?, h0]
    exact this
/-- a look down the pile for the first of a kind -/
theorem lp_pile {ρ : Type} {f : Int32 → Option (Int32 ⊕ ρ)} {g : Int32 → ρ} {q : List Nat} {p : Nat → Bool} (hq : q.length ≤ 130) (he : f (-1) = some (.inr (g (-1)))) (h1 : ∀ k, k < q.length → p (q.getD k 0) = true → f (nI (q.length - 1 - k)) = some (.inr (g (nI (q.length - 1 - k))))) (h2 : ∀ k, k < q.length → p (q.getD k 0) = false → f (nI (q.length - 1 - k)) = some (.inl (nI (q.length - 1 - k) + (-1)))) :
    ∃ v, lp f go_fuel (nI q.length - 1) = some (g v) ∧ ((v = -1 ∧ q.find? p = none) ∨ ∃ k, k < q.length ∧ v = nI (q.length - 1 - k) ∧ q.find? p = some (q.getD k 0) ∧ p (q.getD k 0) = true) := by
  have step : ∀ k, k < q.length → nI (q.length - 1 - k) + (-1) = (if k + 1 < q.length then nI (q.length - 1 - (k + 1)) else -1) := fun k hk => by
    by_cases c : k + 1 < q.length
    · rw [if_pos c, addm1 (by omega)]
      congr 1
    · rw [if_neg c, show q.length - 1 - k = 0 by omega]
      decide
  have go : ∀ r k fuel, k + r = q.length → r < fuel → (∀ j, j < k → p (q.getD j 0) = false) → ∃ v, lp f fuel (if k < q.length then nI (q.length - 1 - k) else -1) = some (g v) ∧ ((v = -1 ∧ q.find? p = none) ∨ ∃ k, k < q.length ∧ v = nI (q.length - 1 - k) ∧ q.find? p = some (q.getD k 0) ∧ p (q.getD k 0) = true) := by
    intro r
    induction r with
    | zero =>
      intro k fuel hk hf hN
      obtain ⟨m, rfl⟩ : ∃ m, fuel = m + 1 := ⟨fuel - 1, by omega⟩
      rw [if_neg (by omega)]
      exact ⟨-1, lp_e he, Or.inl ⟨rfl, fd_none q (fun j hj => hN j (by omega))⟩⟩
    | succ r ih =>
      intro k fuel hk hf hN
      obtain ⟨m, rfl⟩ : ∃ m, fuel = m + 1 := ⟨fuel - 1, by omega⟩
      have hkl : k < q.length := by omega
      rw [if_pos hkl]
      by_cases hp : p (q.getD k 0) = true
      · exact ⟨_, lp_e (h1 k hkl hp), Or.inr ⟨k, hkl, rfl, fd_some q k hkl hp hN, hp⟩⟩
      · have hp' : p (q.getD k 0) = false := Bool.eq_false_iff.mpr hp
        rw [lp_l (h2 k hkl hp'), step k hkl]
        exact ih (k + 1) m (by omega) (by omega) (fun j hj => by
          by_cases e : j = k
          · rw [e]
            exact hp'
          · exact hN j (by omega))
  have st : nI q.length - 1 = (if 0 < q.length then nI (q.length - 1 - 0) else -1) := by
    by_cases c : 0 < q.length
    · rw [if_pos c, subm1 c]
      rfl
    · rw [if_neg c, show q.length = 0 by omega]
      decide
  rw [st]
  exact go q.length 0 go_fuel (by omega) (by unfold go_fuel; omega) (fun j hj => absurd hj (Nat.not_lt_zero j))
theorem q_openAt {μ : PM} {q : List Nat} (h : PLM μ q) : ∃ v, fX12_openAt μ = some v ∧ ((v = -1 ∧ az_now q = none) ∨ ∃ k, k < q.length ∧ v = nI (q.length - 1 - k) ∧ az_now q = some (q.getD k 0) ∧ 40 ≤ q.getD k 0) := by
  obtain ⟨h1, h2, h3⟩ := h
  obtain ⟨v, k1, k2⟩ := lp_pile (f := fun s => lbX12_openAt_7 μ s) (g := fun v => v) (q := q) (p := fun x => decide (40 ≤ x)) h2 (by
    unfold lbX12_openAt_7
    rw [if_pos (by decide)]) (fun k hk hp => by
    have hk3 := h3 k hk
    unfold lbX12_openAt_7
    rw [if_neg (nI_pos (by omega)), chk_n (show q.length - 1 - k < 160 by omega) (by omega), cl_n (show q.length - 1 - k < 2147483648 by omega), hk3.1, if_pos (show (40 : Int32) ≤ nI (q.getD k 0) by rw [l_le (n := 40) (by omega) (by omega)]; exact of_decide_eq_true hp)]) (fun k hk hp => by
    have hk3 := h3 k hk
    have hp := of_decide_eq_false hp
    unfold lbX12_openAt_7
    rw [if_neg (nI_pos (by omega)), chk_n (show q.length - 1 - k < 160 by omega) (by omega), cl_n (show q.length - 1 - k < 2147483648 by omega), hk3.1, if_neg (show ¬ (40 : Int32) ≤ nI (q.getD k 0) by rw [l_le (n := 40) (by omega) (by omega)]; exact hp)])
  unfold fX12_openAt
  simp only [go_let]
  rw [h1, k1]
  refine ⟨v, rfl, ?_⟩
  rcases k2 with ⟨e1, e2⟩ | ⟨k, e1, e2, e3, e4⟩
  · exact Or.inl ⟨e1, e2⟩
  · exact Or.inr ⟨k, e1, e2, e3, of_decide_eq_true e4⟩
def oI (x : Option Nat) : Int32 := match x with
  | none => -1
  | some y => nI y
theorem q_openNow {μ : PM} {q : List Nat} (h : PLM μ q) : fX12_openNow μ = some (oI (az_now q)) := by
  obtain ⟨v, k1, k2⟩ := q_openAt h
  obtain ⟨h1, h2, h3⟩ := h
  unfold fX12_openNow
  rw [k1, Option.bind_some, Option.bind_some]
  rcases k2 with ⟨rfl, e2⟩ | ⟨k, e1, rfl, e3, e4⟩
  · rw [if_neg (by decide), e2]
    rfl
  · rw [if_pos (show (0 : Int32) ≤ nI (q.length - 1 - k) by rw [l_le (n := 0) (by omega) (by omega)]; omega), chk_n (show q.length - 1 - k < 160 by omega) (by omega), cl_n (show q.length - 1 - k < 2147483648 by omega), (h3 k e1).1, e3]
    rfl
theorem q_isCmp {μ : PM} {q : List Nat} (h : PLM μ q) : fX12_isCompared μ = some (if az_cmpd q = true then 1 else 0) := by
  obtain ⟨h1, h2, h3⟩ := h
  obtain ⟨v, k1, k2⟩ := lp_pile (f := fun s => lbX12_isCompared_7 μ s) (g := fun v => .inl v) (q := q) (p := fun x => decide (az_rank x ≤ 4)) h2 (by
    unfold lbX12_isCompared_7
    rw [if_pos (by decide)]) (fun k hk hp => by
    have hk3 := h3 k hk
    have hr := q_rank _ hk3.2
    unfold lbX12_isCompared_7
    rw [if_neg (nI_pos (by omega)), chk_n (show q.length - 1 - k < 160 by omega) (by omega), cl_n (show q.length - 1 - k < 2147483648 by omega), hk3.1, hr.1, if_pos (show nI (az_rank (q.getD k 0)) ≤ 4 by rw [le_l (n := 4) (by omega) (by omega)]; exact of_decide_eq_true hp)]) (fun k hk hp => by
    have hk3 := h3 k hk
    have hr := q_rank _ hk3.2
    have hp := of_decide_eq_false hp
    unfold lbX12_isCompared_7
    rw [if_neg (nI_pos (by omega)), chk_n (show q.length - 1 - k < 160 by omega) (by omega), cl_n (show q.length - 1 - k < 2147483648 by omega), hk3.1, hr.1, if_neg (show ¬ nI (az_rank (q.getD k 0)) ≤ 4 by rw [le_l (n := 4) (by omega) (by omega)]; exact hp)])
  unfold fX12_isCompared
  simp only [go_let]
  rw [h1, k1, Option.bind_some]
  show jjX12_isCompared_30 μ v = _
  unfold jjX12_isCompared_30 az_cmpd
  rcases k2 with ⟨rfl, e2⟩ | ⟨k, e1, rfl, e3, e4⟩
  · rw [if_pos (by decide), e2]
    rfl
  · have hk3 := h3 k e1
    have hr := q_rank _ hk3.2
    rw [if_neg (nI_pos (by omega)), chk_n (show q.length - 1 - k < 160 by omega) (by omega), cl_n (show q.length - 1 - k < 2147483648 by omega), hk3.1, hr.1, e3]
    have hq : nI (az_rank (q.getD k 0)) = 4 ↔ az_rank (q.getD k 0) = 4 := eq_l (n := 4) (by omega) (by omega)
    by_cases c : az_rank (q.getD k 0) = 4
    · rw [if_pos (hq.mpr c), if_pos (decide_eq_true c)]
    · rw [if_neg (fun z => c (hq.mp z)), if_neg (show ¬ decide (az_rank (q.getD k 0) = 4) = true by rw [decide_eq_false c]; decide)]
