/-! ===== the class cuts its tape ===== -/
theorem tk_go_end {P : Nat → Bool} {b : Nat → Nat} : ∀ f x, tk_go P b f x = x + f ∨ P (b (tk_go P b f x)) = false := by
  intro f
  induction f with
  | zero => intro x; exact Or.inl rfl
  | succ f ih =>
    intro x
    unfold tk_go
    by_cases hp : P (b x) = true
    · rw [if_pos hp]
      rcases ih (x + 1) with h | h
      · left
        omega
      · exact Or.inr h
    · rw [if_neg hp]
      exact Or.inr (Bool.eq_false_iff.mpr hp)
theorem tk_run_end {P : Nat → Bool} {b : Nat → Nat} {n x : Nat} (h : x ≤ n) : tk_run P b n x = n ∨ P (b (tk_run P b n x)) = false := by
  unfold tk_run
  rcases tk_go_end (P := P) (b := b) (n - x) x with q | q
  · left
    omega
  · exact Or.inr q
/-- a number as it stands -/
def tk_D (b : Nat → Nat) (x : Nat) : Nat → Nat
  | 0 => 0
  | l + 1 => tk_D b x l * 10 + (b (x + l) - 48)
def tk_sign (x : Nat) (q : Bool) : Nat := if q = true ∧ x = 60 then 51 else if q = true ∧ x = 62 then 52 else if x = 60 then 40 else if x = 62 then 41 else if x = 61 then 42 else if x = 35 then 43 else if x = 43 then 44 else if x = 45 then 45 else if x = 42 then 46 else if x = 47 then 47 else if x = 40 then 48 else if x = 41 then 49 else if x = 59 then 50 else 54
def tk_two (b : Nat → Nat) (n x : Nat) : Bool := decide (x + 1 < n ∧ b (x + 1) = 61)
def tk_end (b : Nat → Nat) (n x : Nat) : Nat := if tk_let (b x) = true then tk_run tk_let b n (x + 1) else if tk_dig (b x) = true then tk_run tk_dig b n (x + 1) else if tk_two b n x = true ∧ (b x = 60 ∨ b x = 62) then x + 2 else x + 1
def tk_num (b : Nat → Nat) (n x : Nat) : Nat := if tk_let (b x) = true then tk_word (tk_K b x (tk_end b n x - x)) else if tk_dig (b x) = true then 32 else tk_sign (b x) (tk_two b n x)
def tk_pos (b : Nat → Nat) (n : Nat) : Nat → Nat
  | 0 => tk_run tk_sp b n 0
  | i + 1 => if tk_pos b n i < n then tk_run tk_sp b n (tk_end b n (tk_pos b n i)) else tk_pos b n i
def tk_t (b : Nat → Nat) (n i : Nat) : Nat := if tk_pos b n i < n then tk_num b n (tk_pos b n i) else 53
def tk_v (b : Nat → Nat) (n i : Nat) : Nat := tk_D b (tk_pos b n i) (tk_end b n (tk_pos b n i) - tk_pos b n i)
theorem tk_end_le {b : Nat → Nat} {n x : Nat} (h : x < n) : x < tk_end b n x ∧ tk_end b n x ≤ n := by
  unfold tk_end
  have k1 := tk_run_le (P := tk_let) (b := b) (show x + 1 ≤ n by omega)
  have k2 := tk_run_le (P := tk_dig) (b := b) (show x + 1 ≤ n by omega)
  split
  · omega
  split
  · omega
  split
  next q =>
    have := of_decide_eq_true q.1
    omega
  · omega
theorem q_isLet : ∀ x, x < 256 → fX6_isLetter (nI x) = if tk_let x = true then 1 else 0 := by decide +kernel
theorem q_isDig : ∀ x, x < 256 → fX6_isDigit (nI x) = if tk_dig x = true then 1 else 0 := by decide +kernel
theorem q_sign0 : ∀ x, x < 256 → fX6_findSign (nI x) 0 = nI (tk_sign x false) ∧ tk_sign x false ≠ 51 ∧ tk_sign x false ≠ 52 ∧ tk_sign x false ≤ 54 := by decide +kernel
theorem q_sign1 : ∀ x, x < 256 → fX6_findSign (nI x) 1 = nI (tk_sign x true) ∧ (tk_sign x true = 51 ↔ x = 60) ∧ (tk_sign x true = 52 ↔ x = 62) ∧ tk_sign x true ≤ 54 := by decide +kernel
theorem jmin_n {a k : Nat} (ha : a < 2147483648) (hk : k < 2147483648) : jmin (nI a) (nI k) = nI (min a k) := by
  unfold jmin
  have h : nI k < nI a ↔ k < a := lt_n hk ha
  by_cases q : k < a
  · rw [if_pos (h.mpr q)]
    congr 1
    omega
  · rw [if_neg (fun z => q (h.mp z))]
    congr 1
    omega
section SPL
variable {μ : PM} {b : Nat → Nat} {n : Nat}
theorem q_valueOf {x l : Nat} (hb : ∀ k, k < 300 → μ.1 371 k = nI (b k) ∧ b k < 256) (hx : x + l ≤ 300) (hd : ∀ j, j < l → tk_dig (b (x + j)) = true) : fX6_valueOf μ (nI x) (nI (x + l)) = some (nI (min (tk_D b x l) 10000)) := by
  have := lp_cnt (f := fun s : Int32 × Int32 => lbX6_valueOf_5 μ (nI x) (nI (x + l)) s.1 s.2) (fun i => (nI (min (tk_D b x i) 10000), nI (x + i))) 0 l (nI (min (tk_D b x l) 10000)) (fun i _ hi => ?_) ?_ go_fuel 0 (by omega) (by omega) (by unfold go_fuel; omega)
  · unfold fX6_valueOf
    have e : ((0 : Int32), nI x) = (fun i => (nI (min (tk_D b x i) 10000), nI (x + i))) 0 := rfl
    rw [e, this]
    rfl
  · have hdi := of_decide_eq_true (hd i hi)
    dsimp only
    unfold lbX6_valueOf_5
    rw [if_neg (nI_pos (show x + i < 2147483648 by omega)), if_neg (show ¬ nI (x + l) ≤ nI (x + i) by rw [le_n (by omega) (by omega)]; omega), if_neg (show ¬ (300 : Int32) ≤ nI (x + i) by rw [l_le (n := 300) (by omega) (by omega)]; omega), chk_n (show x + i < 300 by omega) (by omega)]
    simp only [go_let]
    rw [cl_n (show x + i < 2147483648 by omega), (hb (x + i) (by omega)).1, mul_l 10, nI_add, sub_l (n := 48) (by omega), add_l 1]
    have hm : min (tk_D b x i) 10000 ≤ 10000 := Nat.min_le_right _ _
    rw [show (10000 : Int32) = nI 10000 from rfl, jmin_n (by omega) (by omega)]
    have e : min (min (tk_D b x i) 10000 * 10 + b (x + i) - 48) 10000 = min (tk_D b x (i + 1)) 10000 := by
      show _ = min (tk_D b x i * 10 + (b (x + i) - 48)) 10000
      omega
    rw [e]
    rfl
  · dsimp only
    unfold lbX6_valueOf_5
    rw [if_neg (nI_pos (show x + l < 2147483648 by omega)), if_pos (show nI (x + l) ≤ nI (x + l) by rw [le_n (by omega) (by omega)]; omega)]
theorem q_runL {v2 v3 : Int32} {y : Nat} (hb : ∀ k, k < 300 → μ.1 371 k = nI (b k) ∧ b k < 256) (hn : n ≤ 300) (hy : y ≤ n) : lp (fun s => lbX6_splitTape_57 μ (nI n) v2 v3 s) go_fuel (nI y) = some (.inl (nI (tk_run tk_let b n y))) := by
  have hle := tk_run_le (P := tk_let) (b := b) hy
  refine lp_cnt (f := fun s => lbX6_splitTape_57 μ (nI n) v2 v3 s) (fun i => nI i) y (tk_run tk_let b n y) _ (fun i i1 i2 => ?_) ?_ go_fuel y (by omega) (by omega) (by unfold go_fuel; omega)
  · unfold lbX6_splitTape_57
    rw [if_neg (show ¬ nI n ≤ nI i by rw [le_n (by omega) (by omega)]; omega), chk_n (show i < 300 by omega) (by omega), cl_n (show i < 2147483648 by omega), (hb i (by omega)).1, q_isLet _ (hb i (by omega)).2, nb_01, if_pos (tk_run_all i1 i2), add_l 1]
  · unfold lbX6_splitTape_57
    have hc : nI n ≤ nI (tk_run tk_let b n y) ↔ n ≤ tk_run tk_let b n y := le_n (by omega) (by omega)
    by_cases h : n ≤ tk_run tk_let b n y
    · rw [if_pos (hc.mpr h)]
    · rcases tk_run_end (P := tk_let) (b := b) hy with q | q
      · omega
      · rw [if_neg (fun z => h (hc.mp z)), chk_n (show tk_run tk_let b n y < 300 by omega) (by omega), cl_n (show tk_run tk_let b n y < 2147483648 by omega), (hb _ (by omega)).1, q_isLet _ (hb _ (by omega)).2, nb_01, if_neg (by rw [q]; decide)]
theorem q_runD {v2 v3 : Int32} {y : Nat} (hb : ∀ k, k < 300 → μ.1 371 k = nI (b k) ∧ b k < 256) (hn : n ≤ 300) (hy : y ≤ n) : lp (fun s => lbX6_splitTape_106 μ (nI n) v2 v3 s) go_fuel (nI y) = some (.inl (nI (tk_run tk_dig b n y))) := by
  have hle := tk_run_le (P := tk_dig) (b := b) hy
  refine lp_cnt (f := fun s => lbX6_splitTape_106 μ (nI n) v2 v3 s) (fun i => nI i) y (tk_run tk_dig b n y) _ (fun i i1 i2 => ?_) ?_ go_fuel y (by omega) (by omega) (by unfold go_fuel; omega)
  · unfold lbX6_splitTape_106
    rw [if_neg (show ¬ nI n ≤ nI i by rw [le_n (by omega) (by omega)]; omega), chk_n (show i < 300 by omega) (by omega), cl_n (show i < 2147483648 by omega), (hb i (by omega)).1, q_isDig _ (hb i (by omega)).2, nb_01, if_pos (tk_run_all i1 i2), add_l 1]
  · unfold lbX6_splitTape_106
    have hc : nI n ≤ nI (tk_run tk_dig b n y) ↔ n ≤ tk_run tk_dig b n y := le_n (by omega) (by omega)
    by_cases h : n ≤ tk_run tk_dig b n y
    · rw [if_pos (hc.mpr h)]
    · rcases tk_run_end (P := tk_dig) (b := b) hy with q | q
      · omega
      · rw [if_neg (fun z => h (hc.mp z)), chk_n (show tk_run tk_dig b n y < 300 by omega) (by omega), cl_n (show tk_run tk_dig b n y < 2147483648 by omega), (hb _ (by omega)).1, q_isDig _ (hb _ (by omega)).2, nb_01, if_neg (by rw [q]; decide)]
end SPL
