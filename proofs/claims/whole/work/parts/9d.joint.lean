/-! ===== HALVES: what two of them join to ===== -/
theorem lN_mul10 {A : Int64} {m : Nat} (h : A.toInt = m) (hm : m ≤ 100000000000000) : (A * 10).toInt = ((m * 10 : Nat) : Int) := by
  rw [tl_mul (by rw [h, t10]; omega) (by rw [h, t10]; omega), h, t10]
  omega
theorem lp_j9 (μ : PM) (a0 a1 : Int32) : ∀ n A x fuel, Int64.toInt A = (x : Nat) → n ≤ 10 → x * 10 ^ n ≤ 10000000000000 → n < fuel → ∃ B, lp (fun s => lbX1_jointOf_9 μ a0 a1 s.1 s.2) fuel (A, nI n) = some (.inl B) ∧ B.toInt = ((x * 10 ^ n : Nat) : Int) := by
  intro n
  induction n with
  | zero =>
    intro A x fuel hA h10 hx hf
    obtain ⟨k, rfl⟩ : ∃ k, fuel = k + 1 := ⟨fuel - 1, by omega⟩
    refine ⟨A, lp_e ?_, ?_⟩
    · show lbX1_jointOf_9 μ a0 a1 A (nI 0) = _
      unfold lbX1_jointOf_9
      rw [if_pos (by decide)]
    · rw [hA]
      simp
  | succ n ih =>
    intro A x fuel hA h10 hx hf
    obtain ⟨k, rfl⟩ : ∃ k, fuel = k + 1 := ⟨fuel - 1, by omega⟩
    have hp : 1 ≤ 10 ^ n := Nat.one_le_pow _ _ (by decide)
    have hx2 : x * 10 * 10 ^ n ≤ 10000000000000 := by
      rw [Nat.pow_succ] at hx
      rw [Nat.mul_assoc, Nat.mul_comm 10]
      exact hx
    have hx3 : x * 10 ≤ 10000000000000 := Nat.le_trans (Nat.le_mul_of_pos_right _ hp) hx2
    have hle : ¬ nI (n + 1) ≤ 0 := fun q => by
      have := (le_0 (by omega)).mp q
      omega
    have hs : lbX1_jointOf_9 μ a0 a1 A (nI (n + 1)) = some (.inl (A * 10, nI n)) := by
      unfold lbX1_jointOf_9
      rw [if_neg hle, addm1 (by omega), Nat.add_sub_cancel]
    obtain ⟨B, b1, b2⟩ := ih (A * 10) (x * 10) k (lN_mul10 hA (by omega)) (by omega) hx2 (by omega)
    refine ⟨B, by rw [lp_l (s' := (A * 10, nI n)) hs]; exact b1, ?_⟩
    rw [b2, Nat.pow_succ, Nat.mul_assoc, Nat.mul_comm 10]
theorem lp_tens (a0 : Int32) : ∀ r n i A x fuel, Int64.toInt A = (x : Nat) → a0 = nI n → i + r = n → n ≤ 10 → x * 10 ^ r ≤ 10000000000000 → r < fuel → ∃ B, lp (fun s => lbX12_tens_4 a0 s.1 s.2) fuel (A, nI i) = some B ∧ B.toInt = ((x * 10 ^ r : Nat) : Int) := by
  intro r
  induction r with
  | zero =>
    intro n i A x fuel hA hn hi h10 hx hf
    obtain ⟨k, rfl⟩ : ∃ k, fuel = k + 1 := ⟨fuel - 1, by omega⟩
    refine ⟨A, lp_e ?_, by rw [hA]; simp⟩
    show lbX12_tens_4 a0 A (nI i) = _
    unfold lbX12_tens_4
    rw [hn, if_pos (by rw [le_n (by omega) (by omega)]; omega)]
  | succ r ih =>
    intro n i A x fuel hA hn hi h10 hx hf
    obtain ⟨k, rfl⟩ : ∃ k, fuel = k + 1 := ⟨fuel - 1, by omega⟩
    have hp : 1 ≤ 10 ^ r := Nat.one_le_pow _ _ (by decide)
    have hx2 : x * 10 * 10 ^ r ≤ 10000000000000 := by
      rw [Nat.pow_succ] at hx
      rw [Nat.mul_assoc, Nat.mul_comm 10]
      exact hx
    have hx3 : x * 10 ≤ 10000000000000 := Nat.le_trans (Nat.le_mul_of_pos_right _ hp) hx2
    have hs : lbX12_tens_4 a0 A (nI i) = some (.inl (A * 10, nI (i + 1))) := by
      unfold lbX12_tens_4
      rw [hn, if_neg (by rw [le_n (by omega) (by omega)]; omega), add_l 1]
    obtain ⟨B, b1, b2⟩ := ih n (i + 1) (A * 10) (x * 10) k (lN_mul10 hA (by omega)) hn (by omega) h10 hx2 (by omega)
    refine ⟨B, by rw [lp_l (s' := (A * 10, nI (i + 1))) hs]; exact b1, ?_⟩
    rw [b2, Nat.pow_succ, Nat.mul_assoc, Nat.mul_comm 10]
theorem q_tensM {n : Nat} (hn : n ≤ 10) : ∃ B, fX12_tens (nI n) = some B ∧ B.toInt = ((10 ^ n : Nat) : Int) := by
  have hp : 10 ^ n ≤ 10 ^ 10 := Nat.pow_le_pow_right (by decide) hn
  obtain ⟨B, b1, b2⟩ := lp_tens (nI n) n n 0 1 1 go_fuel (by decide) rfl (by omega) hn (by omega) (by unfold go_fuel; omega)
  have b1 : lp (fun s => lbX12_tens_4 (nI n) s.1 s.2) go_fuel (1, 0) = some B := b1
  refine ⟨B, ?_, by rw [b2, Nat.one_mul]⟩
  unfold fX12_tens
  rw [b1]
  rfl
/-- the number of two that are put together -/
def jsum (x y : Nat) : Nat := x * 10 ^ vz_len 6 y + y
def jo (a : Nat → Int32) (v : Nat) : Nat → Option Nat
  | 0 => none
  | n + 1 => match jo a v n with
    | some k => some k
    | none => if (a (30 + n)).toInt = (v : Int) then some n else none
theorem jo_none {a : Nat → Int32} {v : Nat} : ∀ {n : Nat}, jo a v n = none → ∀ k, k < n → (a (30 + k)).toInt ≠ (v : Int) := by
  intro n
  induction n with
  | zero => intro _ k hk; omega
  | succ n ih =>
    intro h k hk
    unfold jo at h
    cases hq : jo a v n with
    | some x => rw [hq] at h; cases h
    | none =>
      rw [hq] at h
      dsimp only at h
      by_cases e : k = n
      · subst e
        intro q
        rw [if_pos q] at h
        cases h
      · exact ih hq k (by omega)
theorem jo_some {a : Nat → Int32} {v : Nat} : ∀ {n k : Nat}, jo a v n = some k → k < n ∧ (a (30 + k)).toInt = (v : Int) ∧ ∀ j, j < k → (a (30 + j)).toInt ≠ (v : Int) := by
  intro n
  induction n with
  | zero => intro k h; cases h
  | succ n ih =>
    intro k h
    unfold jo at h
    cases hq : jo a v n with
    | some x =>
      rw [hq] at h
      have h : some x = some k := h
      cases h
      have := ih hq
      exact ⟨by omega, this.2⟩
    | none =>
      rw [hq] at h
      dsimp only at h
      split at h
      · rename_i hv
        cases h
        exact ⟨by omega, hv, jo_none hq⟩
      · cases h
/-- the first that a loop finds -/
theorem jo_loop {a : Nat → Int32} {v N : Nat} {f : Int32 → Option (Int32 ⊕ Int32)} (hN : N ≤ 6) (hs : ∀ i, i < N → f (nI i) = if (a (30 + i)).toInt = (v : Int) then some (.inr (nI i)) else some (.inl (nI (i + 1)))) (he : f (nI N) = some (.inr (-1))) : lp f go_fuel 0 = some (enc (jo a v N)) := by
  obtain ⟨r, h1, h2⟩ := lp_inv (f := f) (fun s => ∃ i : Nat, i ≤ N ∧ s = nI i ∧ ∀ j, j < i → (a (30 + j)).toInt ≠ (v : Int)) (fun s => N - s.toNatClampNeg) (fun r => r = enc (jo a v N)) (fun s hI => by
    obtain ⟨i, hi, rfl, hg⟩ := hI
    by_cases e : i = N
    · right
      subst e
      refine ⟨-1, he, ?_⟩
      cases hq : jo a v i with
      | none => rfl
      | some k =>
        have := jo_some hq
        exact absurd this.2.1 (hg k this.1)
    · rw [hs i (by omega)]
      by_cases hv : (a (30 + i)).toInt = (v : Int)
      · right
        rw [if_pos hv]
        refine ⟨_, rfl, ?_⟩
        cases hq : jo a v N with
        | none => exact absurd hv (jo_none hq i (by omega))
        | some k =>
          obtain ⟨k1, k2, k3⟩ := jo_some hq
          have : k = i := by
            by_cases q : k < i
            · exact absurd k2 (hg k q)
            · by_cases q2 : i < k
              · exact absurd hv (k3 i q2)
              · omega
          rw [this]
          rfl
      · left
        rw [if_neg hv]
        refine ⟨_, rfl, ⟨i + 1, by omega, rfl, fun j hj => ?_⟩, ?_⟩
        · by_cases e2 : j = i
          · rw [e2]; exact hv
          · exact hg j (by omega)
        · show N - (nI (i + 1)).toNatClampNeg < N - (nI i).toNatClampNeg
          rw [cl_n (by omega), cl_n (by omega)]
          omega) go_fuel 0 ⟨0, by omega, rfl, fun j hj => by omega⟩ (by show N - _ < go_fuel; unfold go_fuel; omega)
  rw [h1, h2]
def hv (a : Nat → Int32) (i : Nat) : Nat := (a (117 + i)).toNatClampNeg
theorem hv_b {a : Nat → Int32} (hO : OB a) {i : Nat} (hi : i < 8) : a (117 + i) = nI (hv a i) ∧ hv a i ≤ 99999 := by
  have := ob_halves hO hi
  have h2 := ti_cl this.1
  exact ⟨nI_cl this.1, by unfold hv; omega⟩
theorem q_cntH {a : Nat → Int32} (hS : vz_hs a) (hO : OB a) {k : Nat} (hk : k < 8) : fX11_countSounds (nI (hv a k)) = some (nI (vz_len 6 (hv a k))) := by
  rcases hS k hk with h | h
  · have h0 : hv a k = 0 := by
      unfold hv
      rw [h]
      rfl
    rw [h0]
    unfold fX11_countSounds
    rw [if_pos (by decide)]
    rfl
  · obtain ⟨z, -, -, s1, -, -, e⟩ := q_len h
    rw [← (hv_b hO hk).1]
    exact s1.trans (congrArg (fun x => some (nI x)) e)
def jn (a : Nat → Int32) (N i k : Nat) : Option Nat := jo a (jsum (hv a i) (hv a k)) N
theorem jn_lt {a : Nat → Int32} {N i k n : Nat} (h : jn a N i k = some n) : n < N := (jo_some h).1
theorem jsum_b {x y : Nat} (hx : x ≤ 99999) (hy : y ≤ 99999) : x * 10 ^ vz_len 6 y ≤ 99999000000 ∧ jsum x y ≤ 100000000000 := by
  have h1 : 10 ^ vz_len 6 y ≤ 10 ^ 6 := Nat.pow_le_pow_right (by decide) (vz_len_le 6 y)
  have h2 : x * 10 ^ vz_len 6 y ≤ 99999 * 10 ^ 6 := Nat.mul_le_mul hx h1
  unfold jsum
  omega
section JN
variable {μc μm : PM} {N i k : Nat}
theorem q_jointC (hV : VF μc 1 (μm.1 402)) (hO : OB (μm.1 402)) (hS : vz_hs (μm.1 402)) (eN : μm.1 402 0 = nI N) (hN : N ≤ 6) (hi : i < 8) (hk : k < 8) : fX1_jointOf μc (μc.1 9 i) (μc.1 9 k) = some (enc (jn (μm.1 402) N i k)) := by
  rw [v1_halves hV hi, v1_halves hV hk]
  obtain ⟨e1, b1⟩ := hv_b hO hi
  obtain ⟨e2, b2⟩ := hv_b hO hk
  rw [e1, e2]
  obtain ⟨j1, j2⟩ := jsum_b b1 b2
  have hlen := vz_len_le 6 (hv (μm.1 402) k)
  obtain ⟨B, k1, k2⟩ := lp_j9 μc (nI (hv (μm.1 402) i)) (nI (hv (μm.1 402) k)) (vz_len 6 (hv (μm.1 402) k)) (nI (hv (μm.1 402) i)).toInt64 (hv (μm.1 402) i) go_fuel (by rw [il, ti_n (by omega)]) (by omega) (by omega) (by unfold go_fuel; omega)
  unfold fX1_jointOf
  rw [q_cntH hS hO hk, Option.bind_some, k1, Option.bind_some]
  dsimp only [go_cs, go_let]
  have hx : (B + (nI (hv (μm.1 402) k)).toInt64).toInt = ((jsum (hv (μm.1 402) i) (hv (μm.1 402) k) : Nat) : Int) := by
    have t : (nI (hv (μm.1 402) k)).toInt64.toInt = (hv (μm.1 402) k : Int) := by rw [il, ti_n (by omega)]
    rw [tl_add (by rw [k2, t]; omega) (by rw [k2, t]; omega), k2, t]
    unfold jsum
    omega
  rw [jo_loop (a := μm.1 402) (v := jsum (hv (μm.1 402) i) (hv (μm.1 402) k)) (N := N) hN (fun j hj => by
    unfold lbX1_jointOf_34
    rw [v1_names hV, eN, if_neg (by rw [le_n (by omega) (by omega)]; omega), if_neg (by rw [l_le (n := 6) (by omega) (by omega)]; omega), chk_n (by omega) (by omega), cl_n (by omega), v1_sounds hV (by omega), add_l 1]
    have hq : lg_cmp ((μm.1 402 (30 + j)).toInt64) (B + (nI (hv (μm.1 402) k)).toInt64) = 0 ↔ (μm.1 402 (30 + j)).toInt = ((jsum (hv (μm.1 402) i) (hv (μm.1 402) k) : Nat) : Int) := by rw [lc_eq, il, hx]
    by_cases q : (μm.1 402 (30 + j)).toInt = ((jsum (hv (μm.1 402) i) (hv (μm.1 402) k) : Nat) : Int)
    · rw [if_pos q, if_pos (hq.mpr q)]
    · rw [if_neg q, if_neg (fun z => q (hq.mp z))]) (by
    unfold lbX1_jointOf_34
    rw [v1_names hV, eN, if_pos (by rw [le_n (by omega) (by omega)]; omega)])]
  rfl
theorem q_joinM (hO : OB (μm.1 402)) (eN : μm.1 402 0 = nI N) (hN : N ≤ 6) (hi : i < 8) (hk : k < 8) : fX12_joinOf μm (nI i) (nI k) = some (enc (jn (μm.1 402) N i k)) := by
  obtain ⟨e1, b1⟩ := hv_b hO hi
  obtain ⟨e2, b2⟩ := hv_b hO hk
  obtain ⟨j1, j2⟩ := jsum_b b1 b2
  have hl : fX12_lengthOf (nI (hv (μm.1 402) k)) = some (nI (vz_len 6 (hv (μm.1 402) k))) := by
    unfold fX12_lengthOf
    have := lp_len (nI (hv (μm.1 402) k)) 6 (hv (μm.1 402) k) 0 go_fuel (by omega) (by omega) (by unfold go_fuel; omega)
    rw [Nat.zero_add] at this
    rw [show ((0 : Int32), nI (hv (μm.1 402) k)) = (nI 0, nI (hv (μm.1 402) k)) from rfl, this]
    rfl
  have hlen := vz_len_le 6 (hv (μm.1 402) k)
  obtain ⟨B, t1, t2⟩ := q_tensM (n := vz_len 6 (hv (μm.1 402) k)) (by omega)
  unfold fX12_joinOf
  simp only [go_let]
  rw [l_add 117, l_add 117, chk_n (show 117 + i < 1792 by omega) (by omega), chk_n (show 117 + k < 1792 by omega) (by omega), cl_n (show 117 + i < 2147483648 by omega), cl_n (show 117 + k < 2147483648 by omega), e1, e2, hl, Option.bind_some, t1, Option.bind_some, chk_n (show 117 + k < 1792 by omega) (by omega)]
  have hx : ((nI (hv (μm.1 402) i)).toInt64 * B + (nI (hv (μm.1 402) k)).toInt64).toInt = ((jsum (hv (μm.1 402) i) (hv (μm.1 402) k) : Nat) : Int) := by
    have t : (nI (hv (μm.1 402) k)).toInt64.toInt = (hv (μm.1 402) k : Int) := by rw [il, ti_n (by omega)]
    have t' : (nI (hv (μm.1 402) i)).toInt64.toInt = (hv (μm.1 402) i : Int) := by rw [il, ti_n (by omega)]
    have e : (hv (μm.1 402) i : Int) * ((10 ^ vz_len 6 (hv (μm.1 402) k) : Nat) : Int) = ((hv (μm.1 402) i * 10 ^ vz_len 6 (hv (μm.1 402) k) : Nat) : Int) := (Int.natCast_mul _ _).symm
    have m : ((nI (hv (μm.1 402) i)).toInt64 * B).toInt = ((hv (μm.1 402) i * 10 ^ vz_len 6 (hv (μm.1 402) k) : Nat) : Int) := by
      rw [tl_mul (by rw [t', t2, e]; omega) (by rw [t', t2, e]; omega), t', t2, e]
    rw [tl_add (by rw [m, t]; omega) (by rw [m, t]; omega), m, t]
    unfold jsum
    omega
  rw [jo_loop (a := μm.1 402) (v := jsum (hv (μm.1 402) i) (hv (μm.1 402) k)) (N := N) hN (fun j hj => by
    unfold lbX12_joinOf_41
    rw [eN, if_neg (by rw [le_n (by omega) (by omega)]; omega), l_add 30, chk_n (by omega) (by omega), cl_n (by omega), add_l 1]
    have hq : lg_cmp ((μm.1 402 (30 + j)).toInt64) ((nI (hv (μm.1 402) i)).toInt64 * B + (nI (hv (μm.1 402) k)).toInt64) = 0 ↔ (μm.1 402 (30 + j)).toInt = ((jsum (hv (μm.1 402) i) (hv (μm.1 402) k) : Nat) : Int) := by rw [lc_eq, il, hx]
    by_cases q : (μm.1 402 (30 + j)).toInt = ((jsum (hv (μm.1 402) i) (hv (μm.1 402) k) : Nat) : Int)
    · rw [if_pos q, if_pos (hq.mpr q)]
    · rw [if_neg q, if_neg (fun z => q (hq.mp z))]) (by
    unfold lbX12_joinOf_41
    rw [eN, if_pos (by rw [le_n (by omega) (by omega)]; omega)])]
  rfl
end JN
