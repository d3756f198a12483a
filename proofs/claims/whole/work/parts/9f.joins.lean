/-! ===== joins ===== -/
def jc (a : Nat → Int32) (N i k : Nat) : Option Nat := if i = k then none else jn a N i k
theorem jc_n {a : Nat → Int32} {N i k : Nat} (h : i ≠ k) : jc a N i k = jn a N i k := if_neg h
theorem jc_e {a : Nat → Int32} {N i : Nat} : jc a N i i = none := if_pos rfl
theorem jc_lt {a : Nat → Int32} {N i k n : Nat} (h : jc a N i k = some n) : n < N := by
  unfold jc at h
  split at h
  · cases h
  · exact jn_lt h
def lowb (s : Nat) : Nat := (fJ6_numberOfTrailingZeros_0f7a4 (nI s)).toNatClampNeg
theorem q_ntz : ∀ s, s < 256 → 0 < s → fJ6_numberOfTrailingZeros_0f7a4 (nI s) = nI (lowb s) ∧ lowb s < 8 ∧ s.testBit (lowb s) = true ∧ ∀ j, j < lowb s → s.testBit j = false := by decide +kernel
section FJ
variable {μc μm : PM} {N H : Nat}
theorem q_joints (hV : VF μc 1 (μm.1 402)) (hO : OB (μm.1 402)) (hS : vz_hs (μm.1 402)) (eN : μm.1 402 0 = nI N) (hN : N ≤ 6) (hH : H ≤ 8) : ∃ μ', fX1_findJoints μc (nI H) = some μ' ∧ (∀ c, c ≠ 395 → μ'.1 c = μc.1 c) ∧ μ'.2 = μc.2 ∧ ∀ i k, i < H → k < H → μ'.1 395 (i * 8 + k) = enc (jc (μm.1 402) N i k) := by
  have inner : ∀ i μ, i < H → (∀ c, c ≠ 395 → μ.1 c = μc.1 c) → μ.2 = μc.2 → (∀ i' k', i' < i → k' < H → μ.1 395 (i' * 8 + k') = enc (jc (μm.1 402) N i' k')) → ∃ μ', lp (fun q : Int32 × PM => lbX1_findJoints_9 (nI H) (nI i) q.1 q.2) go_fuel (0, μ) = some (.inl μ') ∧ (∀ c, c ≠ 395 → μ'.1 c = μc.1 c) ∧ μ'.2 = μc.2 ∧ ∀ i' k', i' < i + 1 → k' < H → μ'.1 395 (i' * 8 + k') = enc (jc (μm.1 402) N i' k') := fun i μ hi h1 h1' h2 => by
    obtain ⟨r, g1, μ', rfl, g2⟩ := lp_inv (f := fun q : Int32 × PM => lbX1_findJoints_9 (nI H) (nI i) q.1 q.2) (fun q => ∃ k : Nat, k ≤ H ∧ q.1 = nI k ∧ (∀ c, c ≠ 395 → q.2.1 c = μc.1 c) ∧ q.2.2 = μc.2 ∧ ∀ i' k', k' < H → (i' < i ∨ (i' = i ∧ k' < k)) → q.2.1 395 (i' * 8 + k') = enc (jc (μm.1 402) N i' k')) (fun q => H - q.1.toNatClampNeg) (fun r => ∃ μ', r = .inl μ' ∧ (∀ c, c ≠ 395 → μ'.1 c = μc.1 c) ∧ μ'.2 = μc.2 ∧ ∀ i' k', i' < i + 1 → k' < H → μ'.1 395 (i' * 8 + k') = enc (jc (μm.1 402) N i' k')) (fun q hI => by
      obtain ⟨q1, q2⟩ := q
      obtain ⟨k, hk, e, f1, f2, f3⟩ := hI
      have e : q1 = nI k := e
      have f1 : ∀ c, c ≠ 395 → q2.1 c = μc.1 c := f1
      have f2 : q2.2 = μc.2 := f2
      have f3 : ∀ i' k', k' < H → (i' < i ∨ (i' = i ∧ k' < k)) → q2.1 395 (i' * 8 + k') = enc (jc (μm.1 402) N i' k') := f3
      subst e
      dsimp only
      unfold lbX1_findJoints_9 jjX1_findJoints_55_9
      have hle : nI H ≤ nI k ↔ H ≤ k := le_n (by omega) (by omega)
      by_cases hlt : H ≤ k
      · right
        rw [if_pos (hle.mpr hlt)]
        exact ⟨_, rfl, q2, rfl, f1, f2, fun i' k' hi' hk' => f3 i' k' hk' (by omega)⟩
      · left
        have hV2 : VF q2 1 (μm.1 402) := VF_eq hV (fun j hj => by have := (vz_loc_le j hj).1; rw [f1 _ (by omega)])
        have dec : H - (nI (k + 1)).toNatClampNeg < H - (nI k).toNatClampNeg := by rw [cl_n (by omega), cl_n (by omega)]; omega
        have hik : nI i = nI k ↔ i = k := eq_n (by omega) (by omega)
        simp only [go_let]
        rw [if_neg (fun z => hlt (hle.mp z)), mul_l 8, nI_add, chk_n (show i * 8 + k < 64 by omega) (by omega), cl_n (show i * 8 + k < 2147483648 by omega), add_l 1]
        have fin : ∃ s', (some (Sum.inl (nI (k + 1), pm_wi q2 395 (i * 8 + k) (enc (jc (μm.1 402) N i k)))) : Option ((Int32 × PM) ⊕ ((PM) ⊕ ((Int32 × PM) ⊕ (PM))))) = some (.inl s') ∧ (∃ k : Nat, k ≤ H ∧ s'.1 = nI k ∧ (∀ c, c ≠ 395 → s'.2.1 c = μc.1 c) ∧ s'.2.2 = μc.2 ∧ ∀ i' k', k' < H → (i' < i ∨ (i' = i ∧ k' < k)) → s'.2.1 395 (i' * 8 + k') = enc (jc (μm.1 402) N i' k')) ∧ H - s'.1.toNatClampNeg < H - (nI k).toNatClampNeg := by
          refine ⟨_, rfl, ⟨k + 1, by omega, rfl, fun c hc => ?_, f2, fun i' k' hk' hlt' => ?_⟩, dec⟩
          · show (pm_wi q2 395 _ _).1 c = _
            rw [wi_c hc]; exact f1 c hc
          · show (pm_wi q2 395 _ _).1 395 _ = _
            by_cases e : i' = i ∧ k' = k
            · rw [e.1, e.2, wi_e]
            · rw [wi_i (by omega)]
              exact f3 i' k' hk' (by omega)
        by_cases c1 : i = k
        · rw [if_pos (hik.mpr c1)]
          have : enc (jc (μm.1 402) N i k) = -1 := by rw [c1, jc_e]; rfl
          rw [this] at fin
          exact fin
        · rw [if_neg (fun z => c1 (hik.mp z)), chk_n (show i < 8 by omega) (by omega), chk_n (show k < 8 by omega) (by omega), cl_n (show i < 2147483648 by omega), cl_n (show k < 2147483648 by omega), q_jointC hV2 hO hS eN hN (by omega) (by omega), Option.bind_some, chk_n (show i * 8 + k < 64 by omega) (by omega), ← jc_n c1]
          rw [cl_n (show k < 2147483648 by omega)] at fin
          exact fin) go_fuel (0, μ) ⟨0, by omega, rfl, h1, h1', fun i' k' hk' hlt => h2 i' k' (by omega) hk'⟩ (by show H - _ < go_fuel; unfold go_fuel; omega)
    exact ⟨μ', g1, g2⟩
  obtain ⟨r, g1, g2, g3, g4⟩ := lp_inv (f := fun q : Int32 × PM => lbX1_findJoints_2 (nI H) q.1 q.2) (fun q => ∃ i : Nat, i ≤ H ∧ q.1 = nI i ∧ (∀ c, c ≠ 395 → q.2.1 c = μc.1 c) ∧ q.2.2 = μc.2 ∧ ∀ i' k', i' < i → k' < H → q.2.1 395 (i' * 8 + k') = enc (jc (μm.1 402) N i' k')) (fun q => H - q.1.toNatClampNeg) (fun r => (∀ c, c ≠ 395 → r.1 c = μc.1 c) ∧ r.2 = μc.2 ∧ ∀ i k, i < H → k < H → r.1 395 (i * 8 + k) = enc (jc (μm.1 402) N i k)) (fun q hI => by
    obtain ⟨q1, q2⟩ := q
    obtain ⟨i, hi, e, f1, f2, f3⟩ := hI
    have e : q1 = nI i := e
    subst e
    dsimp only
    unfold lbX1_findJoints_2
    have hle : nI H ≤ nI i ↔ H ≤ i := le_n (by omega) (by omega)
    by_cases hlt : H ≤ i
    · right
      rw [if_pos (hle.mpr hlt)]
      exact ⟨_, rfl, f1, f2, fun i' k' hi' hk' => f3 i' k' (by omega) hk'⟩
    · left
      obtain ⟨μ', k1, k2, k3, k4⟩ := inner i q2 (by omega) f1 f2 f3
      rw [if_neg (fun z => hlt (hle.mp z)), k1, Option.bind_some, add_l 1]
      refine ⟨_, rfl, ⟨i + 1, by omega, rfl, k2, k3, k4⟩, ?_⟩
      show H - (nI (i + 1)).toNatClampNeg < H - (nI i).toNatClampNeg
      rw [cl_n (by omega), cl_n (by omega)]
      omega) go_fuel (0, μc) ⟨0, by omega, rfl, fun _ _ => rfl, rfl, fun i' k' hi' => by omega⟩ (by show H - _ < go_fuel; unfold go_fuel; omega)
  refine ⟨r, ?_, g2, g3, g4⟩
  unfold fX1_findJoints
  rw [g1]
  rfl
end FJ
section LW
variable {a : Nat → Int32} {N H : Nat} {t : Nat → Nat}
/-- the lowest has none, or one of those behind it -/
theorem tt_low (hH : H ≤ 8) (ht : ∀ s, s < 2 ^ H → tbR a N H t s) : ∀ n s z, s < n → s < 2 ^ H → z < H → s.testBit z = true → (∀ j, j < z → s.testBit j = false) → t s = t (rm s z) ∨ ∃ o, z < o ∧ o < H ∧ s.testBit o = true ∧ (jn a N z o ≠ none ∨ jn a N o z ≠ none) ∧ t s = t (rm (rm s z) o) + 1 := by
  intro n
  induction n with
  | zero => intro s z h; omega
  | succ n ih =>
    intro s z hn hs hz hzb hlow
    have hle := tt_mono hH ht z (s + 1) s (by omega) hs
    rcases (ht s hs).2.1 with h0 | ⟨i, k, hi, hk, hv, he⟩
    · left; omega
    have hgt : ∀ o, s.testBit o = true → o ≠ z → z < o := fun o ho hoz => by
      by_cases q : o < z
      · rw [hlow o q] at ho; cases ho
      · omega
    by_cases c1 : i = z
    · right
      refine ⟨k, hgt k hv.2.2.1 (fun q => hv.1 (by rw [c1, q])), hk, hv.2.2.1, Or.inl (by rw [← c1]; exact hv.2.2.2), ?_⟩
      rw [← c1]; exact he
    by_cases c2 : k = z
    · right
      refine ⟨i, hgt i hv.2.1 c1, hi, hv.2.1, Or.inr (by rw [← c2]; exact hv.2.2.2), ?_⟩
      rw [rm_comm, ← c2]; exact he
    have hlt := vp_lt (show i < 8 by omega) (show k < 8 by omega) hv
    have b2 : ∀ j, j < 32 → (rm (rm s i) k).testBit j = (s.testBit j && !decide (j = i) && !decide (j = k)) := fun j hj => by rw [rm_bit _ _ hj, rm_bit _ _ hj]
    have hzb' : (rm (rm s i) k).testBit z = true := by
      rw [b2 z (by omega), hzb]
      have q1 : ¬ z = i := fun q => c1 q.symm
      have q2 : ¬ z = k := fun q => c2 q.symm
      simp [q1, q2]
    rcases ih (rm (rm s i) k) z (by omega) (rm_b (rm_b hs)) hz hzb' (fun j hj => by rw [b2 j (by omega), hlow j hj]; rfl) with q | ⟨o, o1, o2, o3, o4, o5⟩
    · left
      have hv2 : vp a N (rm s z) i k := ⟨hv.1, by rw [rm_bit _ _ (by omega), hv.2.1]; simp [c1], by rw [rm_bit _ _ (by omega), hv.2.2.1]; simp [c2], hv.2.2.2⟩
      have h1 := (ht (rm s z) (rm_b hs)).1 i k hi hk hv2
      have e : rm (rm (rm s i) k) z = rm (rm (rm s z) i) k := by rw [rm_comm (rm s i) k z, rm_comm s i z]
      rw [e] at q
      omega
    · right
      rw [b2 o (by omega), Bool.and_eq_true, Bool.and_eq_true] at o3
      obtain ⟨⟨p1, p2⟩, p3⟩ := o3
      have oi : o ≠ i := fun q => by simp [q] at p2
      have ok : o ≠ k := fun q => by simp [q] at p3
      refine ⟨o, o1, o2, p1, o4, ?_⟩
      have hv2 : vp a N (rm (rm s z) o) i k := ⟨hv.1, by rw [rm_bit _ _ (by omega), rm_bit _ _ (by omega), hv.2.1]; have : ¬ i = o := fun q => oi q.symm; simp [c1, this], by rw [rm_bit _ _ (by omega), rm_bit _ _ (by omega), hv.2.2.1]; have : ¬ k = o := fun q => ok q.symm; simp [c2, this], hv.2.2.2⟩
      have h1 := (ht (rm (rm s z) o) (rm_b (rm_b hs))).1 i k hi hk hv2
      have e : rm (rm (rm (rm s i) k) z) o = rm (rm (rm (rm s z) o) i) k := by
        rw [rm_comm (rm s i) k z, rm_comm s i z, rm_comm (rm (rm s z) i) k o, rm_comm (rm s z) i o]
      rw [e] at o5
      have hub : t (rm (rm s z) o) + 1 ≤ t s := by
        rcases o4 with o4 | o4
        · exact (ht s hs).1 z o hz o2 ⟨by omega, hzb, p1, o4⟩
        · have := (ht s hs).1 o z o2 hz ⟨by omega, p1, hzb, o4⟩
          rw [rm_comm] at this
          exact this
      omega
end LW
section FM
variable {μ0 : PM} {a : Nat → Int32} {N H : Nat} {t : Nat → Nat}
theorem q_most (hN : N ≤ 6) (hH : H ≤ 8) (ht : ∀ s, s < 2 ^ H → tbR a N H t s) (hJ : ∀ i k, i < H → k < H → μ0.1 395 (i * 8 + k) = enc (jc a N i k)) : ∃ μ', fX1_findMost μ0 (nI H) = some μ' ∧ (∀ c, c ≠ 396 → μ'.1 c = μ0.1 c) ∧ μ'.2 = μ0.2 ∧ ∀ s, s < 2 ^ H → μ'.1 396 s = nI (t s) := by
  have hp : 2 ^ H ≤ 2 ^ 8 := Nat.pow_le_pow_right (by decide) hH
  have hp1 : 1 ≤ 2 ^ H := Nat.one_le_two_pow
  have t0 : t 0 = 0 := by
    have h1 := (ht 0 (by omega)).2.2
    have h2 : pc8 0 = 0 := rfl
    omega
  have tle : ∀ s, s < 2 ^ H → t s ≤ 4 := fun s hs => by
    have h1 := (ht s hs).2.2
    have h2 := pc8_le s
    omega
  -- those behind the lowest
  have inner : ∀ μ s, s < 2 ^ H → 0 < s → lowb s < H → (∀ c, c ≠ 396 → μ.1 c = μ0.1 c) → (∀ x, x < s → μ.1 396 x = nI (t x)) → ∃ v, lp (fun q : Int32 × Int32 => lbX1_findMost_44 μ (nI H) (nI s) (nI (lowb s)) (nI (rm s (lowb s))) q.1 q.2) go_fuel (nI (t (rm s (lowb s))), nI (lowb s + 1)) = some (.inl (nI v)) ∧ v = t s := fun μ s hs hs0 hzH h1 h2 => by
    obtain ⟨z1, z2, z3, z4⟩ := q_ntz s (by omega) hs0
    have hrm := rm_lt (show lowb s < 32 by omega) z3
    have hmono := tt_mono hH ht (lowb s) (s + 1) s (by omega) hs
    have ub : ∀ o, lowb s < o → o < H → s.testBit o = true → (jn a N (lowb s) o ≠ none ∨ jn a N o (lowb s) ≠ none) → t (rm (rm s (lowb s)) o) + 1 ≤ t s := fun o o1 o2 o3 o4 => by
      rcases o4 with o4 | o4
      · exact (ht s hs).1 (lowb s) o hzH o2 ⟨by omega, z3, o3, o4⟩
      · have := (ht s hs).1 o (lowb s) o2 hzH ⟨by omega, o3, z3, o4⟩
        rw [rm_comm] at this
        exact this
    obtain ⟨r, g1, v, rfl, g2, g3, g4⟩ := lp_inv (f := fun q : Int32 × Int32 => lbX1_findMost_44 μ (nI H) (nI s) (nI (lowb s)) (nI (rm s (lowb s))) q.1 q.2) (fun q => ∃ k v : Nat, lowb s < k ∧ k ≤ H ∧ q.2 = nI k ∧ q.1 = nI v ∧ t (rm s (lowb s)) ≤ v ∧ v ≤ t s ∧ ∀ o, lowb s < o → o < k → s.testBit o = true → (jn a N (lowb s) o ≠ none ∨ jn a N o (lowb s) ≠ none) → t (rm (rm s (lowb s)) o) + 1 ≤ v) (fun q => H - q.2.toNatClampNeg) (fun r => ∃ v : Nat, r = .inl (nI v) ∧ t (rm s (lowb s)) ≤ v ∧ v ≤ t s ∧ ∀ o, lowb s < o → o < H → s.testBit o = true → (jn a N (lowb s) o ≠ none ∨ jn a N o (lowb s) ≠ none) → t (rm (rm s (lowb s)) o) + 1 ≤ v) (fun q hI => by
      obtain ⟨q1, q2⟩ := q
      obtain ⟨k, v, hk1, hk, e, e', v1, v2, v3⟩ := hI
      have e : q2 = nI k := e
      have e' : q1 = nI v := e'
      subst e e'
      have htl := tle s hs
      dsimp only
      unfold lbX1_findMost_44 jjX1_findMost_82_44 jjX1_findMost_87_44
      have hle : nI H ≤ nI k ↔ H ≤ k := le_n (by omega) (by omega)
      by_cases hlt : H ≤ k
      · right
        have : k = H := by omega
        subst this
        rw [if_pos (hle.mpr hlt)]
        exact ⟨_, rfl, v, rfl, v1, v2, v3⟩
      · left
        have dec : H - (nI (k + 1)).toNatClampNeg < H - (nI k).toNatClampNeg := by rw [cl_n (by omega), cl_n (by omega)]; omega
        have e395 := h1 395 (by omega)
        simp only [go_let]
        rw [if_neg (fun z => hlt (hle.mp z)), mul_l 8, mul_l 8, nI_add, nI_add, chk_n (show lowb s * 8 + k < 64 by omega) (by omega), chk_n (show k * 8 + lowb s < 64 by omega) (by omega), cl_n (show lowb s * 8 + k < 2147483648 by omega), cl_n (show k * 8 + lowb s < 2147483648 by omega), e395, hJ _ _ hzH (by omega), hJ _ _ (by omega) hzH, jc_n (show lowb s ≠ k by omega), jc_n (show k ≠ lowb s by omega), if_neg (show ¬ (1 : Int32) = 0 by decide), bitE, nb_has (by omega) (by omega), q_ite, nI_rm (show k < 31 by omega), add_l 1]
        have skip : (s.testBit k = true → (jn a N (lowb s) k ≠ none ∨ jn a N k (lowb s) ≠ none) → t (rm (rm s (lowb s)) k) + 1 ≤ v) → ∃ s', (some (Sum.inl (nI v, nI (k + 1))) : Option ((Int32 × Int32) ⊕ ((Int32) ⊕ ((Int32 × PM) ⊕ (PM))))) = some (.inl s') ∧ (∃ k v : Nat, lowb s < k ∧ k ≤ H ∧ s'.2 = nI k ∧ s'.1 = nI v ∧ t (rm s (lowb s)) ≤ v ∧ v ≤ t s ∧ ∀ o, lowb s < o → o < k → s.testBit o = true → (jn a N (lowb s) o ≠ none ∨ jn a N o (lowb s) ≠ none) → t (rm (rm s (lowb s)) o) + 1 ≤ v) ∧ H - s'.2.toNatClampNeg < H - (nI k).toNatClampNeg := fun hq => ⟨_, rfl, ⟨k + 1, v, by omega, by omega, rfl, rfl, v1, v2, fun o o1 o2 o3 o4 => by
          by_cases eo : o = k
          · subst eo; exact hq o3 o4
          · exact v3 o o1 (by omega) o3 o4⟩, dec⟩
        have hbk : (rm s (lowb s)).testBit k = s.testBit k := by
          rw [rm_bit _ _ (by omega)]
          have : ¬ k = lowb s := by omega
          simp [this]
        have join : (jn a N (lowb s) k ≠ none ∨ jn a N k (lowb s) ≠ none) → ∃ s', (if (rm s (lowb s)).testBit k = true then go_chk (nI (rm (rm s (lowb s)) k)) 256 (some (Sum.inl (jmax (nI v) (μ.1 396 (nI (rm (rm s (lowb s)) k)).toNatClampNeg + 1), nI (k + 1)))) else some (Sum.inl (nI v, nI (k + 1))) : Option ((Int32 × Int32) ⊕ ((Int32) ⊕ ((Int32 × PM) ⊕ (PM))))) = some (.inl s') ∧ (∃ k v : Nat, lowb s < k ∧ k ≤ H ∧ s'.2 = nI k ∧ s'.1 = nI v ∧ t (rm s (lowb s)) ≤ v ∧ v ≤ t s ∧ ∀ o, lowb s < o → o < k → s.testBit o = true → (jn a N (lowb s) o ≠ none ∨ jn a N o (lowb s) ≠ none) → t (rm (rm s (lowb s)) o) + 1 ≤ v) ∧ H - s'.2.toNatClampNeg < H - (nI k).toNatClampNeg := fun hj => by
          rw [hbk]
          by_cases hb : s.testBit k = true
          · have hlt2 : rm (rm s (lowb s)) k < s := Nat.lt_of_le_of_lt (rm_le _ _) hrm
            have hub := ub k hk1 (by omega) hb hj
            rw [if_pos hb, chk_n (show rm (rm s (lowb s)) k < 256 by omega) (by omega), cl_n (show rm (rm s (lowb s)) k < 2147483648 by omega), h2 _ hlt2, add_l 1]
            have ej : jmax (nI v) (nI (t (rm (rm s (lowb s)) k) + 1)) = nI (if v < t (rm (rm s (lowb s)) k) + 1 then t (rm (rm s (lowb s)) k) + 1 else v) := by
              unfold jmax
              have hl : nI v < nI (t (rm (rm s (lowb s)) k) + 1) ↔ v < t (rm (rm s (lowb s)) k) + 1 := lt_n (by omega) (by omega)
              by_cases q : v < t (rm (rm s (lowb s)) k) + 1
              · rw [if_pos (hl.mpr q), if_pos q]
              · rw [if_neg (fun z => q (hl.mp z)), if_neg q]
            rw [ej]
            refine ⟨_, rfl, ⟨k + 1, _, by omega, by omega, rfl, rfl, by split <;> omega, by split <;> omega, fun o o1 o2 o3 o4 => ?_⟩, dec⟩
            by_cases eo : o = k
            · subst eo; split <;> omega
            · have := v3 o o1 (by omega) o3 o4
              split <;> omega
          · rw [if_neg hb]
            exact skip (fun q => absurd q hb)
        cases j1 : jn a N (lowb s) k with
        | some n1 =>
          have := jn_lt j1
          rw [if_neg (enc_n1 (by omega))]
          exact join (Or.inl (by rw [j1]; exact fun q => by cases q))
        | none =>
          rw [if_pos (show enc none = -1 from rfl)]
          cases j2 : jn a N k (lowb s) with
          | some n2 =>
            have := jn_lt j2
            rw [if_neg (enc_n1 (by omega))]
            exact join (Or.inr (by rw [j2]; exact fun q => by cases q))
          | none =>
            rw [if_pos (show enc none = -1 from rfl), if_pos trivial]
            exact skip (fun _ q => by
              rcases q with q | q
              · exact absurd j1 q
              · exact absurd j2 q)) go_fuel (nI (t (rm s (lowb s))), nI (lowb s + 1)) ⟨lowb s + 1, t (rm s (lowb s)), by omega, by omega, rfl, rfl, Nat.le_refl _, hmono, fun o o1 o2 => by omega⟩ (by show H - _ < go_fuel; unfold go_fuel; omega)
    refine ⟨v, g1, ?_⟩
    rcases tt_low hH ht (s + 1) s (lowb s) (by omega) hs hzH z3 z4 with q | ⟨o, o1, o2, o3, o4, o5⟩
    · omega
    · have := g4 o o1 o2 o3 o4
      omega
  have hlowH : ∀ s, s < 2 ^ H → 0 < s → lowb s < H := fun s hs hs0 => by
    obtain ⟨z1, z2, z3, z4⟩ := q_ntz s (by omega) hs0
    refine Classical.byContradiction fun q => ?_
    have h1 : 2 ^ H ≤ 2 ^ lowb s := Nat.pow_le_pow_right (by decide) (by omega)
    have h2 := Nat.testBit_lt_two_pow (x := s) (i := lowb s) (by omega)
    rw [z3] at h2
    cases h2
  obtain ⟨r, g1, g2, g3, g4⟩ := lp_inv (f := fun q : Int32 × PM => lbX1_findMost_9 (nI H) q.1 q.2) (fun q => ∃ s : Nat, 1 ≤ s ∧ s ≤ 2 ^ H ∧ q.1 = nI s ∧ (∀ c, c ≠ 396 → q.2.1 c = μ0.1 c) ∧ q.2.2 = μ0.2 ∧ ∀ x, x < s → q.2.1 396 x = nI (t x)) (fun q => 2 ^ H - q.1.toNatClampNeg) (fun r => (∀ c, c ≠ 396 → r.1 c = μ0.1 c) ∧ r.2 = μ0.2 ∧ ∀ s, s < 2 ^ H → r.1 396 s = nI (t s)) (fun q hI => by
    obtain ⟨q1, q2⟩ := q
    obtain ⟨s, hs1, hs, e, f1, f2, f3⟩ := hI
    have e : q1 = nI s := e
    have f1 : ∀ c, c ≠ 396 → q2.1 c = μ0.1 c := f1
    have f3 : ∀ x, x < s → q2.1 396 x = nI (t x) := f3
    subst e
    dsimp only
    unfold lbX1_findMost_9
    rw [nb_shl H (by omega)]
    have hle : nI (2 ^ H) ≤ nI s ↔ 2 ^ H ≤ s := le_n (by omega) (by omega)
    by_cases hlt : 2 ^ H ≤ s
    · right
      have : s = 2 ^ H := by omega
      subst this
      rw [if_pos (hle.mpr hlt)]
      exact ⟨_, rfl, f1, f2, f3⟩
    · left
      obtain ⟨z1, z2, z3, z4⟩ := q_ntz s (by omega) (by omega)
      have hrm := rm_lt (show lowb s < 32 by omega) z3
      obtain ⟨v, k1, k2⟩ := inner q2 s (by omega) (by omega) (hlowH s (by omega) (by omega)) f1 f3
      simp only [go_let]
      rw [if_neg (fun z => hlt (hle.mp z)), z1, nI_rm (show lowb s < 31 by omega), chk_n (show rm s (lowb s) < 256 by omega) (by omega), cl_n (show rm s (lowb s) < 2147483648 by omega), f3 _ hrm, add_l 1, k1, Option.bind_some]
      dsimp only [go_cs]
      rw [chk_n (show s < 256 by omega) (by omega), cl_n (show s < 2147483648 by omega), add_l 1]
      refine ⟨_, rfl, ⟨s + 1, by omega, by omega, rfl, fun c hc => ?_, f2, fun x hx => ?_⟩, ?_⟩
      · show (pm_wi q2 396 s (nI v)).1 c = _
        rw [wi_c hc]; exact f1 c hc
      · show (pm_wi q2 396 s (nI v)).1 396 x = _
        by_cases e : x = s
        · rw [e, wi_e, k2]
        · rw [wi_i e]; exact f3 x (by omega)
      · show 2 ^ H - (nI (s + 1)).toNatClampNeg < 2 ^ H - s
        rw [cl_n (by omega)]
        omega) go_fuel (1, pm_wi μ0 396 0 0) ⟨1, by omega, hp1, rfl, fun c hc => wi_c hc, rfl, fun x hx => by
      have : x = 0 := by omega
      show (pm_wi μ0 396 0 0).1 396 x = _
      rw [this, wi_e, t0]
      rfl⟩ (by show 2 ^ H - _ < go_fuel; unfold go_fuel; omega)
  refine ⟨r, ?_, g2, g3, g4⟩
  unfold fX1_findMost
  simp only [go_let]
  rw [g1]
  rfl
end FM
