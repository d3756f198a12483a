/-! ===== what the pure layer stands on: numbers, memory, loops ===== -/
theorem ti_add {a b : Int32} (h1 : -2147483648 ≤ a.toInt + b.toInt) (h2 : a.toInt + b.toInt ≤ 2147483647) : (a + b).toInt = a.toInt + b.toInt := by
  rw [Int32.toInt_add]
  exact Int.bmod_eq_of_le (by omega) (by omega)
theorem ti_sub {a b : Int32} (h1 : -2147483648 ≤ a.toInt - b.toInt) (h2 : a.toInt - b.toInt ≤ 2147483647) : (a - b).toInt = a.toInt - b.toInt := by
  rw [Int32.toInt_sub]
  exact Int.bmod_eq_of_le (by omega) (by omega)
theorem ti_mul {a b : Int32} (h1 : -2147483648 ≤ a.toInt * b.toInt) (h2 : a.toInt * b.toInt ≤ 2147483647) : (a * b).toInt = a.toInt * b.toInt := by
  rw [Int32.toInt_mul]
  exact Int.bmod_eq_of_le (by omega) (by omega)
theorem ti_cl {a : Int32} (h : 0 ≤ a.toInt) : (a.toNatClampNeg : Int) = a.toInt := by
  rw [← Int32.toNat_toInt]
  exact Int.toNat_of_nonneg h
theorem nI_cl {a : Int32} (h : 0 ≤ a.toInt) : a = nI a.toNatClampNeg := by
  refine Int32.toInt_inj.mp ?_
  have h2 := ti_cl h
  have h3 := a.toInt_lt
  rw [nI_toInt (by omega)]
  exact h2.symm
/-- a number that is not below 0 is one of the naturals -/
theorem nI_get {a : Int32} {k : Nat} (h : 0 ≤ a.toInt) (h2 : a.toInt ≤ (k : Int)) : ∃ n : Nat, a = nI n ∧ n ≤ k := ⟨a.toNatClampNeg, nI_cl h, by have := ti_cl h; omega⟩
theorem l_add (n k : Nat) : (OfNat.ofNat n : Int32) + nI k = nI (n + k) := nI_add n k
theorem add_l (n k : Nat) : nI k + (OfNat.ofNat n : Int32) = nI (k + n) := nI_add k n
theorem nI_mulI (a b : Nat) : nI a * nI b = nI (a * b) := (Int32.ofNat_mul a b).symm
theorem l_mul (n k : Nat) : (OfNat.ofNat n : Int32) * nI k = nI (n * k) := nI_mulI n k
theorem mul_l (n k : Nat) : nI k * (OfNat.ofNat n : Int32) = nI (k * n) := nI_mulI k n
theorem nI_subI {a b : Nat} (h : b ≤ a) : nI a - nI b = nI (a - b) := (Int32.ofNat_sub a b h).symm
theorem sub_l {n k : Nat} (h : n ≤ k) : nI k - (OfNat.ofNat n : Int32) = nI (k - n) := nI_subI h
theorem l_sub {n k : Nat} (h : k ≤ n) : (OfNat.ofNat n : Int32) - nI k = nI (n - k) := nI_subI h
theorem lt_l {n k : Nat} (hk : k < 2147483648) (hn : n < 2147483648) : nI k < (OfNat.ofNat n : Int32) ↔ k < n := nI_ltI hk hn
theorem l_lt {n k : Nat} (hk : k < 2147483648) (hn : n < 2147483648) : (OfNat.ofNat n : Int32) < nI k ↔ n < k := nI_ltI hn hk
theorem le_l {n k : Nat} (hk : k < 2147483648) (hn : n < 2147483648) : nI k ≤ (OfNat.ofNat n : Int32) ↔ k ≤ n := nI_leI hk hn
theorem l_le {n k : Nat} (hk : k < 2147483648) (hn : n < 2147483648) : (OfNat.ofNat n : Int32) ≤ nI k ↔ n ≤ k := nI_leI hn hk
theorem eq_l {n k : Nat} (hk : k < 2147483648) (hn : n < 2147483648) : nI k = (OfNat.ofNat n : Int32) ↔ k = n := nI_eq hk hn
theorem l_eq {n k : Nat} (hk : k < 2147483648) (hn : n < 2147483648) : (OfNat.ofNat n : Int32) = nI k ↔ n = k := nI_eq hn hk
theorem lt_n {n k : Nat} (hk : k < 2147483648) (hn : n < 2147483648) : nI k < nI n ↔ k < n := nI_ltI hk hn
theorem le_n {n k : Nat} (hk : k < 2147483648) (hn : n < 2147483648) : nI k ≤ nI n ↔ k ≤ n := nI_leI hk hn
theorem eq_n {n k : Nat} (hk : k < 2147483648) (hn : n < 2147483648) : nI k = nI n ↔ k = n := nI_eq hk hn
theorem cl_n {k : Nat} (hk : k < 2147483648) : (nI k).toNatClampNeg = k := nI_clamp hk
theorem ti_n {k : Nat} (hk : k < 2147483648) : (nI k).toInt = (k : Int) := nI_toInt hk
theorem nI_divI {a b : Nat} (ha : a < 2147483648) (hb : b < 2147483648) : nI a / nI b = nI (a / b) := (Int32.ofNat_div ha hb).symm
theorem div_l {n k : Nat} (hk : k < 2147483648) (hn : n < 2147483648) : nI k / (OfNat.ofNat n : Int32) = nI (k / n) := nI_divI hk hn
theorem nI_rem {a b : Nat} (ha : a < 2147483648) (hb : b < 2147483648) : jrem (nI a) (nI b) = nI (a % b) := by
  unfold jrem
  rw [nI_divI ha hb, nI_mulI, nI_subI (Nat.div_mul_le_self a b)]
  congr 1
  have := Nat.div_add_mod a b
  rw [Nat.mul_comm] at this
  omega
theorem rem_l {n k : Nat} (hk : k < 2147483648) (hn : n < 2147483648) : jrem (nI k) (OfNat.ofNat n : Int32) = nI (k % n) := nI_rem hk hn
theorem neg1_ne {k : Nat} (hk : k < 2147483648) : (nI k = -1) ↔ False := by
  refine ⟨fun h => ?_, False.elim⟩
  have := congrArg Int32.toInt h
  rw [nI_toInt hk] at this
  have h2 : (-1 : Int32).toInt = -1 := rfl
  omega
theorem ne_neg1 {k : Nat} (hk : k < 2147483648) : (-1 = nI k) ↔ False := by
  rw [eq_comm]
  exact neg1_ne hk
/-! memory -/
theorem wi_r (μ : PM) (c i : Nat) (v : Int32) (c' j : Nat) : (pm_wi μ c i v).1 c' j = if c' = c ∧ j = i then v else μ.1 c' j := by
  unfold pm_wi va_up upd
  by_cases h : c' = c
  · by_cases h2 : j = i
    · simp [h, h2]
    · simp [h, h2]
  · simp [h]
theorem wi_c {μ : PM} {c i : Nat} {v : Int32} {c' : Nat} (h : c' ≠ c) : (pm_wi μ c i v).1 c' = μ.1 c' := by
  unfold pm_wi va_up
  simp [h]
theorem wi_e {μ : PM} {c i : Nat} {v : Int32} : (pm_wi μ c i v).1 c i = v := by rw [wi_r, if_pos ⟨rfl, rfl⟩]
theorem wi_i {μ : PM} {c i : Nat} {v : Int32} {j : Nat} (h : j ≠ i) : (pm_wi μ c i v).1 c j = μ.1 c j := by rw [wi_r, if_neg (fun q => h q.2)]
theorem wi_2 (μ : PM) (c i : Nat) (v : Int32) : (pm_wi μ c i v).2 = μ.2 := rfl
theorem wl_1 (μ : PM) (c i : Nat) (v : Int64) : (pm_wl μ c i v).1 = μ.1 := rfl
theorem wl_r (μ : PM) (c i : Nat) (v : Int64) (c' j : Nat) : (pm_wl μ c i v).2 c' j = if c' = c ∧ j = i then v else μ.2 c' j := by
  unfold pm_wl va_up vp_updL
  by_cases h : c' = c
  · by_cases h2 : j = i
    · simp [h, h2]
    · simp [h, h2]
  · simp [h]
theorem wl_c {μ : PM} {c i : Nat} {v : Int64} {c' : Nat} (h : c' ≠ c) : (pm_wl μ c i v).2 c' = μ.2 c' := by
  unfold pm_wl va_up
  simp [h]
theorem cp_r (μ : PM) (a b sp dp n c' j : Nat) : (pm_cp μ a b sp dp n).1 c' j = if c' = b ∧ dp ≤ j ∧ j < dp + n then μ.1 a (sp + (j - dp)) else μ.1 c' j := by
  unfold pm_cp va_up va_cpy
  by_cases h : c' = b
  · by_cases h2 : dp ≤ j ∧ j < dp + n
    · simp [h, h2]
    · simp only [h, if_true, true_and]
  · simp [h]
theorem cp_c {μ : PM} {a b sp dp n c' : Nat} (h : c' ≠ b) : (pm_cp μ a b sp dp n).1 c' = μ.1 c' := by
  unfold pm_cp va_up
  simp [h]
theorem cp_2 (μ : PM) (a b sp dp n : Nat) : (pm_cp μ a b sp dp n).2 = μ.2 := rfl
theorem chk_p {α : Type} {i : Int32} {n : Nat} {A : Option α} (h0 : 0 ≤ i.toInt) (h1 : i.toInt < n) : go_chk i n A = A := if_pos ⟨h0, h1⟩
theorem chk_n {α : Type} {k n : Nat} {A : Option α} (h : k < n) (hn : n < 2147483648) : go_chk (nI k) n A = A := by
  refine chk_p ?_ ?_
  · rw [nI_toInt (by omega)]; omega
  · rw [nI_toInt (by omega)]; omega
/-! loops -/
theorem lp_l {σ ρ : Type} {f : σ → Option (σ ⊕ ρ)} {n : Nat} {s s' : σ} (h : f s = some (.inl s')) : lp f (n + 1) s = lp f n s' := by rw [lp, h]
theorem lp_e {σ ρ : Type} {f : σ → Option (σ ⊕ ρ)} {n : Nat} {s : σ} {r : ρ} (h : f s = some (.inr r)) : lp f (n + 1) s = some r := by rw [lp, h]
/-- a loop with an invariant and a measure that falls -/
theorem lp_inv {σ ρ : Type} {f : σ → Option (σ ⊕ ρ)} (I : σ → Prop) (m : σ → Nat) (P : ρ → Prop)
    (h : ∀ s, I s → (∃ s', f s = some (.inl s') ∧ I s' ∧ m s' < m s) ∨ (∃ r, f s = some (.inr r) ∧ P r)) :
    ∀ n s, I s → m s < n → ∃ r, lp f n s = some r ∧ P r := by
  intro n
  induction n with
  | zero => intro s _ hm; omega
  | succ n ih =>
    intro s hI hm
    rcases h s hI with ⟨s', hf, hI', hlt⟩ | ⟨r, hf, hP⟩
    · obtain ⟨r, hr, hP⟩ := ih s' hI' (by omega)
      exact ⟨r, by rw [lp_l hf]; exact hr, hP⟩
    · exact ⟨r, lp_e hf, hP⟩
/-- two loops in step -/
theorem lp_two {σ ρ σ' ρ' : Type} {f : σ → Option (σ ⊕ ρ)} {g : σ' → Option (σ' ⊕ ρ')} (I : σ → σ' → Prop) (m : σ → Nat) (P : ρ → ρ' → Prop)
    (h : ∀ s t, I s t → (∃ s' t', f s = some (.inl s') ∧ g t = some (.inl t') ∧ I s' t' ∧ m s' < m s) ∨ (∃ r r', f s = some (.inr r) ∧ g t = some (.inr r') ∧ P r r')) :
    ∀ n n' s t, I s t → m s < n → m s < n' → ∃ r r', lp f n s = some r ∧ lp g n' t = some r' ∧ P r r' := by
  intro n
  induction n with
  | zero => intro n' s t _ hm; omega
  | succ n ih =>
    intro n' s t hI hm hm'
    obtain ⟨k, rfl⟩ : ∃ k, n' = k + 1 := ⟨n' - 1, by omega⟩
    rcases h s t hI with ⟨s', t', hf, hg, hI', hlt⟩ | ⟨r, r', hf, hg, hP⟩
    · obtain ⟨r, r', hr, hr', hP⟩ := ih k s' t' hI' (by omega) (by omega)
      exact ⟨r, r', by rw [lp_l hf]; exact hr, by rw [lp_l hg]; exact hr', hP⟩
    · exact ⟨r, r', lp_e hf, lp_e hg, hP⟩
/-- a counting loop: a state for each number, up to the last one -/
theorem lp_cnt {σ ρ : Type} {f : σ → Option (σ ⊕ ρ)} (S : Nat → σ) (b e : Nat) (r : ρ) (hs : ∀ i, b ≤ i → i < e → f (S i) = some (.inl (S (i + 1)))) (hr : f (S e) = some (.inr r)) :
    ∀ n i, b ≤ i → i ≤ e → e - i < n → lp f n (S i) = some r := by
  intro n
  induction n with
  | zero => intro i _ _ h; omega
  | succ n ih =>
    intro i hb he h
    by_cases hi : i = e
    · subst hi
      exact lp_e hr
    · rw [lp_l (hs i hb (by omega))]
      exact ih (i + 1) (by omega) (by omega) (by omega)
theorem bitE (a0 a1 : Int32) : fX11_hasBit a0 a1 = fX12_has a0 a1 := by
  unfold fX11_hasBit fX12_has
  have h : ((a0 >>> (a1 &&& 31)) &&& 1) = 0 ∨ ((a0 >>> (a1 &&& 31)) &&& 1) = 1 := by
    generalize (a0 >>> (a1 &&& 31)) = x
    have : x.toBitVec &&& 1#32 = 0#32 ∨ x.toBitVec &&& 1#32 = 1#32 := by
      rw [BitVec.and_one_eq_setWidth_ofBool_getLsbD]
      cases x.toBitVec.getLsbD 0
      · left; rfl
      · right; rfl
    rcases this with h | h
    · left
      exact Int32.toBitVec_inj.mp h
    · right
      exact Int32.toBitVec_inj.mp h
  rcases h with h | h
  · rw [h]; decide
  · rw [h]; decide
