/-! ===== one begins ===== -/
section BGN
variable {b : Nat → Nat} {n T : Nat}
def lk_of (s : Nat) : Nat := if s = 0 then 15 else if s = 1 then 16 else 18
theorem q_isOf0 : ∀ s, s < 3 → ∀ k, k < 9 → (if nI k < 6 then (1 : Int32) else if nI k = 6 then (if nI s = 0 then 0 else 1) else if nI s = 2 then 1 else 0) = if lk_of s < k + 10 then 0 else 1 := by decide
theorem q_isOf {μ : PM} {s k : Nat} (hs : μ.1 401 14 = nI s) (h3 : s < 3) (hk : k ≤ 8) : fX12_isOf μ (nI k) = if lk_of s < k + 10 then 0 else 1 := by
  unfold fX12_isOf
  rw [hs]
  exact q_isOf0 s h3 k (by omega)
/-- one that is written at once -/
theorem q_write {μ : PM} {i a c : Nat} {q : List Nat} {out : pz_C} {o : Nat} (h : MZ μ b n T (i, q, o, false, out)) (hl : out.length + 1 + q.length ≤ 304) : AZR μ b n T (az_endOne (tk_t b n) (i + 1) q o (out ++ [(a, c)])) ((fX12_emit μ (nI a) (nI c)).bind fun q2 => (fX12_nextToken q2).bind fun q3 => (fX12_endOne q3).bind fun q4 => some ((q4.1, q4.2))) := by
  obtain ⟨h1, h2, h3, h4, h5, h6, h7⟩ := h
  have h2 : TM μ b n (tk_pos b n i) := h2
  have h3 : PLM μ q := h3
  have h4 : μ.1 401 17 = nI o := h4
  have h5 : o = az_c q := h5
  have h7 : OUTM μ T out := h7
  obtain ⟨μ1, k1, k2, k3, k4⟩ := q_emit (a := a) (c := c) h7 (by omega)
  have M1 : TM μ1 b n (tk_pos b n i) := TM_sf h2 (fun j j1 j2 => k4.2.1 j (by omega)) (by rw [k4.2.2])
  have T1 := TPM_ef h1 k3
  obtain ⟨μ2, m1, m2, m3⟩ := tm_next T1 M1
  have g : ∀ j, j ≠ 7 → j ≠ 8 → j ≠ 9 → j ≠ 10 → j ≠ 13 → μ2.1 401 j = μ.1 401 j := fun j j7 j8 j9 j10 j13 => (m2.2 j j7 j8 j9 j10).trans (k4.2.1 j j13)
  have P2 : PLM μ2 q := PLM_eq h3 (g 16 (by omega) (by omega) (by omega) (by omega) (by omega)) ((m2.1 406 (by omega)).trans (k4.1 406 (by omega) (by omega)))
  have O2 : OUTM μ2 T (out ++ [(a, c)]) := OUTM_eq k2 (m2.2 12 (by omega) (by omega) (by omega) (by omega)) (m2.2 13 (by omega) (by omega) (by omega) (by omega)) (m2.1 404 (by omega))
  have e17 : μ2.1 401 17 = nI (az_c q) := by rw [g 17 (by omega) (by omega) (by omega) (by omega) (by omega), h4, h5]
  have r := q_endOne (T1.nf m2) m3 P2 e17 O2 (by rw [List.length_append]; exact hl)
  rw [← h5] at r
  have E2 : EF T μ μ2 := k3.tr (m2.ef T)
  rw [k1, Option.bind_some, m1, Option.bind_some]
  have id2 : ((fX12_endOne μ2).bind fun q4 => some ((q4.1, q4.2))) = fX12_endOne μ2 := by
    cases fX12_endOne μ2 <;> rfl
  rw [id2]
  generalize hr : az_endOne (tk_t b n) (i + 1) q o (out ++ [(a, c)]) = R at r ⊢
  cases R with
  | inl s =>
    obtain ⟨μ3, r1, r2, r3⟩ := r
    exact ⟨μ3, r1, r2, E2.tr r3⟩
  | inr e =>
    obtain ⟨μ3, r1, r2, r3, r4⟩ := r
    refine ⟨μ3, r1, r2, E2.tr r3, fun z => ?_⟩
    exfalso
    unfold az_endOne at hr
    split at hr
    · split at hr
      · cases hr
      · cases hr
        exact absurd z (show ¬ (1 : Nat) = 0 by decide)
    · cases hr
end BGN
