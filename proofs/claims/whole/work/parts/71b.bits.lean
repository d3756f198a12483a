/-! ===== sets of bits, as naturals (the first two rows out of kit/laws/BITS.to-paste) ===== -/
theorem nx_and (a b : Nat) : nI a &&& nI b = nI (a &&& b) := by
  apply Int32.toBitVec_inj.1
  show BitVec.ofNat 32 a &&& BitVec.ofNat 32 b = BitVec.ofNat 32 (a &&& b)
  apply BitVec.eq_of_getLsbD_eq
  intro i hi
  simp [hi]
theorem nx_xor (a b : Nat) : nI a ^^^ nI b = nI (a ^^^ b) := by
  apply Int32.toBitVec_inj.1
  show BitVec.ofNat 32 a ^^^ BitVec.ofNat 32 b = BitVec.ofNat 32 (a ^^^ b)
  apply BitVec.eq_of_getLsbD_eq
  intro i hi
  simp [hi]
theorem nx_or (a b : Nat) : nI a ||| nI b = nI (a ||| b) := by
  apply Int32.toBitVec_inj.1
  show BitVec.ofNat 32 a ||| BitVec.ofNat 32 b = BitVec.ofNat 32 (a ||| b)
  apply BitVec.eq_of_getLsbD_eq
  intro i hi
  simp [hi]
theorem nb_shl : ∀ n, n < 31 → (1 : Int32) <<< (nI n &&& 31) = nI (2 ^ n) := by decide +kernel
theorem nb_sml : ∀ n, n < 32 → ((nI n &&& 31).toBitVec.smod 32).toNat = n := by decide +kernel
theorem nb_shr {k n : Nat} (hk : k < 2147483648) (hn : n < 32) : nI k >>> (nI n &&& 31) = nI (k / 2 ^ n) := pk_shrN (by omega) _ n (nb_sml n hn)
theorem nb_has {k n : Nat} (hk : k < 2147483648) (hn : n < 32) : fX12_has (nI k) (nI n) = if k.testBit n = true then 1 else 0 := by
  unfold fX12_has
  rw [nb_shr hk hn]
  have h1 : nI (k / 2 ^ n) &&& 1 = nI (k / 2 ^ n % 2) := by
    show nI (k / 2 ^ n) &&& nI 1 = _
    rw [nx_and, Nat.and_one_is_mod]
  rw [h1, Nat.testBit_eq_decide_div_mod_eq]
  have h2 : k / 2 ^ n % 2 < 2 := Nat.mod_lt _ (by decide)
  have h3 : (nI (k / 2 ^ n % 2) = 1) ↔ k / 2 ^ n % 2 = 1 := eq_l (n := 1) (by omega) (by omega)
  by_cases h : k / 2 ^ n % 2 = 1
  · rw [if_pos (h3.mpr h), if_pos (decide_eq_true h)]
  · rw [if_neg (fun q => h (h3.mp q)), if_neg (by simp [h])]
theorem nb_not {k n : Nat} (hn : n < 31) : nI k &&& ((1 : Int32) <<< (nI n &&& 31) ^^^ (-1)) = nI (k &&& (2 ^ n ^^^ 4294967295)) := by
  rw [nb_shl n hn, show (-1 : Int32) = nI 4294967295 from rfl, nx_xor, nx_and]
theorem nb_set {k n : Nat} (hn : n < 31) : nI k ||| ((1 : Int32) <<< (nI n &&& 31)) = nI (k ||| 2 ^ n) := by rw [nb_shl n hn, nx_or]
theorem nb_flip {k n : Nat} (hn : n < 31) : nI k ^^^ ((1 : Int32) <<< (nI n &&& 31)) = nI (k ^^^ 2 ^ n) := by rw [nb_shl n hn, nx_xor]
theorem nb_pow {n m : Nat} (h : n < m) : 2 ^ n < 2 ^ m := Nat.pow_lt_pow_right (by decide) h
theorem nb_or_lt {k n m : Nat} (hk : k < 2 ^ m) (hn : n < m) : k ||| 2 ^ n < 2 ^ m := Nat.or_lt_two_pow hk (nb_pow hn)
theorem nb_xor_lt {k n m : Nat} (hk : k < 2 ^ m) (hn : n < m) : k ^^^ 2 ^ n < 2 ^ m := Nat.xor_lt_two_pow hk (nb_pow hn)
theorem nb_and_le (k x : Nat) : k &&& x ≤ k := Nat.and_le_left
/-- of a set of CELLS, with a CELL more, less, or turned: a set of CELLS -/
theorem nb_cells {x b : Int32} (hx : 0 ≤ x.toInt ∧ x.toInt ≤ 1023) (hb : 0 ≤ b.toInt ∧ b.toInt ≤ 9) : (0 ≤ (x ||| (1 : Int32) <<< (b &&& 31)).toInt ∧ (x ||| (1 : Int32) <<< (b &&& 31)).toInt ≤ 1023) ∧ (0 ≤ (x &&& ((1 : Int32) <<< (b &&& 31) ^^^ (-1))).toInt ∧ (x &&& ((1 : Int32) <<< (b &&& 31) ^^^ (-1))).toInt ≤ 1023) ∧ (0 ≤ (x ^^^ (1 : Int32) <<< (b &&& 31)).toInt ∧ (x ^^^ (1 : Int32) <<< (b &&& 31)).toInt ≤ 1023) := by
  obtain ⟨k, rfl, hk, hk2⟩ := nz_of (v := x) (k := 1024) hx.1 (by omega)
  obtain ⟨n, rfl, hn, hn2⟩ := nz_of (v := b) (k := 10) hb.1 (by omega)
  rw [nb_set (by omega), nb_not (by omega), nb_flip (by omega)]
  have h1 := nb_or_lt (k := k) (n := n) (m := 10) (by omega) (by omega)
  have h2 := nb_xor_lt (k := k) (n := n) (m := 10) (by omega) (by omega)
  have h3 := nb_and_le k (2 ^ n ^^^ 4294967295)
  rw [ti_n (by omega), ti_n (by omega), ti_n (by omega)]
  omega
