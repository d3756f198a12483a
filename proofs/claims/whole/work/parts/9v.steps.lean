/-! ===== the reference's pile, step by step ===== -/
def MZ (μ : PM) (b : Nat → Nat) (n T : Nat) (s : az_S) : Prop := TPM μ b n ∧ TM μ b n (tk_pos b n s.1) ∧ PLM μ s.2.1 ∧ μ.1 401 17 = nI s.2.2.1 ∧ s.2.2.1 = az_c s.2.1 ∧ μ.1 401 18 = (if s.2.2.2.1 = true then 1 else 0) ∧ OUTM μ T s.2.2.2.2
/-- what a step of the reference answers, held against the abstract one -/
def AZR (μ : PM) (b : Nat → Nat) (n T : Nat) (r : az_S ⊕ (Nat × Nat)) (p : Option (Int32 × PM)) : Prop := match r with
  | .inl s => ∃ μ', p = some (0, μ') ∧ MZ μ' b n T s ∧ EF T μ μ'
  | .inr e => ∃ μ', p = some (if e.1 = 0 then -1 else nI e.1, μ') ∧ TM μ' b n (tk_pos b n e.2) ∧ EF T μ μ' ∧ (e.1 = 0 → μ' = μ)
theorem TM_sf {μ μ' : PM} {b : Nat → Nat} {n x : Nat} (h : TM μ b n x) (h1 : ∀ j, 7 ≤ j → j ≤ 10 → μ'.1 401 j = μ.1 401 j) (h2 : μ'.2 401 11 = μ.2 401 11) : TM μ' b n x := by
  unfold TM at h ⊢
  rw [h1 7 (by omega) (by omega), h1 8 (by omega) (by omega), h1 9 (by omega) (by omega), h1 10 (by omega) (by omega), h2]
  exact h
theorem PLM_eq {μ μ' : PM} {q : List Nat} (h : PLM μ q) (h1 : μ'.1 401 16 = μ.1 401 16) (h2 : μ'.1 406 = μ.1 406) : PLM μ' q := by
  unfold PLM at h ⊢
  rw [h1, h2]
  exact h
theorem OUTM_eq {μ μ' : PM} {T : Nat} {out : pz_C} (h : OUTM μ T out) (h1 : μ'.1 401 12 = μ.1 401 12) (h2 : μ'.1 401 13 = μ.1 401 13) (h3 : μ'.1 404 = μ.1 404) : OUTM μ' T out := by
  unfold OUTM at h ⊢
  rw [h1, h2, h3]
  exact h
theorem TPM_ef {μ μ' : PM} {b : Nat → Nat} {n T : Nat} (h : TPM μ b n) (hE : EF T μ μ') : TPM μ' b n := ⟨(hE.2.1 4 (by omega)).trans h.1, h.2.1, fun k hk => by rw [hE.1 405 (by omega) (by omega) (by omega)]; exact h.2.2 k hk⟩
theorem PLM_set {μ μ' : PM} {x y : Nat} {q : List Nat} (h : PLM μ (x :: q)) (hy : y < 64) (h1 : μ'.1 401 16 = μ.1 401 16) (h2 : ∀ k, k < q.length → μ'.1 406 k = μ.1 406 k) (h3 : μ'.1 406 q.length = nI y) : PLM μ' (y :: q) := by
  obtain ⟨k1, k2, k3⟩ := h
  refine ⟨h1.trans k1, k2, fun k hk => ?_⟩
  have hk : k < q.length + 1 := hk
  cases k with
  | zero => exact ⟨h3, hy⟩
  | succ k =>
    have := k3 (k + 1) hk
    have e : (x :: q).length - 1 - (k + 1) = q.length - 1 - k := by
      show q.length + 1 - 1 - (k + 1) = _
      omega
    have e2 : (y :: q).length - 1 - (k + 1) = q.length - 1 - k := by
      show q.length + 1 - 1 - (k + 1) = _
      omega
    rw [e] at this
    rw [e2, h2 _ (by omega)]
    exact this
section STP
variable {b : Nat → Nat} {n T : Nat}
theorem q_opened {μ : PM} {i o x : Nat} {q : List Nat} {out : pz_C} (h : MZ μ b n T (i, q, o, false, out)) (hq : q.length < 130) (hx : x < 64) (hc : az_rank x = 7 ∨ x = 20 ∨ 40 ≤ x) : AZR μ b n T (az_opened i q o out x) (fX12_opened μ (nI x)) := by
  obtain ⟨h1, h2, h3, h4, h5, h6, h7⟩ := h
  have h1 : TPM μ b n := h1
  have h2 : TM μ b n (tk_pos b n i) := h2
  have h3 : PLM μ q := h3
  have h4 : μ.1 401 17 = nI o := h4
  have h5 : o = az_c q := h5
  have h6 : μ.1 401 18 = 0 := h6
  have h7 : OUTM μ T out := h7
  have hol := az_c_le q
  have q8 : nI o = 8 ↔ o = 8 := eq_l (n := 8) (by omega) (by omega)
  unfold az_opened fX12_opened
  rw [h4]
  by_cases c : o = 8
  · rw [if_pos c, if_pos (q8.mpr c)]
    exact ⟨μ, rfl, h2, EF.rfl' T μ, fun z => absurd z (show ¬ (3 : Nat) = 0 by decide)⟩
  rw [if_neg c, if_neg (fun z => c (q8.mp z))]
  simp only [go_let]
  rw [add_l 1, wi_i (show 16 ≠ 17 by decide), h3.1, chk_n (show q.length < 160 by omega) (by omega), cl_n (show q.length < 2147483648 by omega)]
  have e16 : (pm_wi (pm_wi μ 401 17 (nI (o + 1))) 406 q.length (nI x)).1 401 16 + 1 = nI (q.length + 1) := by rw [wi_c (by decide), wi_i (by omega), h3.1, add_l 1]
  rw [e16]
  have E4 : EF T μ (pm_wi (pm_wi (pm_wi μ 401 17 (nI (o + 1))) 406 q.length (nI x)) 401 16 (nI (q.length + 1))) := ((((EF.rfl' T μ).wi1 (by omega)).wi6).wi1 (by omega))
  have T4 := TPM_ef h1 E4
  have M4 : TM (pm_wi (pm_wi (pm_wi μ 401 17 (nI (o + 1))) 406 q.length (nI x)) 401 16 (nI (q.length + 1))) b n (tk_pos b n i) := TM_sf h2 (fun j j1 j2 => by rw [wi_i (by omega), wi_c (by decide), wi_i (by omega)]) rfl
  have P4 : PLM (pm_wi (pm_wi (pm_wi μ 401 17 (nI (o + 1))) 406 q.length (nI x)) 401 16 (nI (q.length + 1))) (x :: q) := PLM_push h3 hx hq wi_e (fun k hk => by rw [wi_c (by decide), wi_i (by omega), wi_c (by decide)]) (by rw [wi_c (by decide), wi_e])
  have O4 : OUTM (pm_wi (pm_wi (pm_wi μ 401 17 (nI (o + 1))) 406 q.length (nI x)) 401 16 (nI (q.length + 1))) T out := OUTM_eq h7 (by rw [wi_i (by omega), wi_c (by decide), wi_i (by omega)]) (by rw [wi_i (by omega), wi_c (by decide), wi_i (by omega)]) (by rw [wi_c (by decide), wi_c (by decide), wi_c (by decide)])
  have e17 : (pm_wi (pm_wi (pm_wi μ 401 17 (nI (o + 1))) 406 q.length (nI x)) 401 16 (nI (q.length + 1))).1 401 17 = nI (o + 1) := by rw [wi_i (by omega), wi_c (by decide), wi_e]
  have e18 : (pm_wi (pm_wi (pm_wi μ 401 17 (nI (o + 1))) 406 q.length (nI x)) 401 16 (nI (q.length + 1))).1 401 18 = 0 := by rw [wi_i (by omega), wi_c (by decide), wi_i (by omega)]; exact h6
  generalize pm_wi (pm_wi (pm_wi μ 401 17 (nI (o + 1))) 406 q.length (nI x)) 401 16 (nI (q.length + 1)) = μ4 at E4 T4 M4 P4 O4 e17 e18 ⊢
  obtain ⟨μ5, k1, k2, k3⟩ := tm_next T4 M4
  rw [k1, Option.bind_some]
  refine ⟨μ5, rfl, ⟨T4.nf k2, k3, PLM_eq P4 (k2.2 16 (by omega) (by omega) (by omega) (by omega)) (k2.1 406 (by omega)), (k2.2 17 (by omega) (by omega) (by omega) (by omega)).trans e17, ?_, (k2.2 18 (by omega) (by omega) (by omega) (by omega)).trans e18, OUTM_eq O4 (k2.2 12 (by omega) (by omega) (by omega) (by omega)) (k2.2 13 (by omega) (by omega) (by omega) (by omega)) (k2.1 404 (by omega))⟩, E4.tr (k2.ef T)⟩
  show o + 1 = az_c (x :: q)
  rw [az_c_s, if_pos hc, h5]
theorem q_endOne {μ : PM} {i : Nat} {q : List Nat} {out : pz_C} (h1 : TPM μ b n) (h2 : TM μ b n (tk_pos b n i)) (h3 : PLM μ q) (h4 : μ.1 401 17 = nI (az_c q)) (h7 : OUTM μ T out) (hl : out.length + q.length ≤ 304) : AZR μ b n T (az_endOne (tk_t b n) i q (az_c q) out) (fX12_endOne μ) := by
  obtain ⟨μ1, k1, k2, k3, k4, k5, k6, k7⟩ := q_settle (least := 7) (by omega) (by omega) h3 h7 hl h4
  have k1 : fX12_settle μ 7 = some μ1 := k1
  unfold az_endOne fX12_endOne
  rw [k1, Option.bind_some]
  simp only [go_let]
  generalize az_settle 7 q (az_c q) out = S at k2 k3 k4 k5 ⊢
  obtain ⟨q', o', out'⟩ := S
  have k2 : PLM μ1 q' := k2
  have k3 : OUTM μ1 T out' := k3
  have k4 : μ1.1 401 17 = nI o' := k4
  have k5 : o' = az_c q' := k5
  have T2 : TPM (pm_wi μ1 401 18 1) b n := TPM_ef h1 (k6.wi1 (by omega))
  have M2 : TM (pm_wi μ1 401 18 1) b n (tk_pos b n i) := TM_sf h2 (fun j j1 j2 => by rw [wi_i (by omega)]; exact k7.2.1 j (by omega) (by omega) (by omega)) (by rw [wi_2, k7.2.2])
  have P2 : PLM (pm_wi μ1 401 18 1) q' := PLM_eq k2 (wi_i (by omega)) (wi_c (by decide))
  have O2 : OUTM (pm_wi μ1 401 18 1) T out' := OUTM_eq k3 (wi_i (by omega)) (wi_i (by omega)) (wi_c (by decide))
  have E2 : EF T μ (pm_wi μ1 401 18 1) := k6.wi1 (by omega)
  have e17 : (pm_wi μ1 401 18 1).1 401 17 = nI o' := by rw [wi_i (by omega)]; exact k4
  have e18 : (pm_wi μ1 401 18 1).1 401 18 = 1 := wi_e
  generalize pm_wi μ1 401 18 1 = μ2 at T2 M2 P2 O2 E2 e17 e18 ⊢
  have stay : AZR μ b n T (.inl (i, q', o', true, out')) (some (0, μ2)) := ⟨μ2, rfl, ⟨T2, M2, P2, e17, k5, e18, O2⟩, E2⟩
  cases q' with
  | nil =>
    rw [P2.1, if_pos (show nI ([] : List Nat).length = 0 from rfl)]
    exact stay
  | cons x q' =>
    obtain ⟨t1, t2, t3, t4⟩ := PLM_top P2
    have q41 : nI x = 41 ↔ x = 41 := eq_l (n := 41) (by omega) (by omega)
    rw [t1, if_neg (show ¬ nI (q'.length + 1) = 0 from fun z => by have := (eq_l (n := 0) (by omega) (by omega)).mp z; omega), subm1 (by omega), Nat.add_sub_cancel, chk_n (show q'.length < 160 by omega) (by omega), cl_n (show q'.length < 2147483648 by omega), t3]
    by_cases c : x = 41
    · subst c
      rw [if_pos (show nI 41 = 41 from rfl), tm_word (w := 21) T2 M2 (by omega) tw_at.2.2.1, q_ite]
      show AZR μ b n T (if tk_t b n i = 21 then _ else _) _
      by_cases c21 : tk_t b n i = 21
      · rw [if_pos c21, if_pos c21]
        obtain ⟨μ5, m1, m2, m3⟩ := tm_next T2 M2
        have e16 : μ5.1 401 16 = nI (q'.length + 1) := (m2.2 16 (by omega) (by omega) (by omega) (by omega)).trans t1
        rw [m1, Option.bind_some, e16, subm1 (by omega), Nat.add_sub_cancel, chk_n (show q'.length < 160 by omega) (by omega), cl_n (show q'.length < 2147483648 by omega)]
        have P5 : PLM μ5 (41 :: q') := PLM_eq P2 (m2.2 16 (by omega) (by omega) (by omega) (by omega)) (m2.1 406 (by omega))
        have E7 : EF T μ5 (pm_wi (pm_wi μ5 406 q'.length 4) 401 18 0) := ((EF.rfl' T μ5).wi6).wi1 (by omega)
        refine ⟨_, rfl, ⟨TPM_ef (T2.nf m2) E7, TM_sf m3 (fun j j1 j2 => by rw [wi_i (by omega), wi_c (by decide)]) rfl, PLM_set P5 (by omega) (by rw [wi_i (by omega), wi_c (by decide)]) (fun k hk => by rw [wi_c (by decide), wi_i (by omega)]) (by rw [wi_c (by decide), wi_e]; rfl), ?_, ?_, wi_e, OUTM_eq O2 ?_ ?_ ?_⟩, E2.tr ((m2.ef T).tr E7)⟩
        · rw [wi_i (by omega), wi_c (by decide)]
          exact (m2.2 17 (by omega) (by omega) (by omega) (by omega)).trans e17
        · show o' = az_c (4 :: q')
          rw [k5, az_c_s, az_c_s, if_pos (by decide), if_pos (by decide)]
        · rw [wi_i (by omega), wi_c (by decide)]
          exact m2.2 12 (by omega) (by omega) (by omega) (by omega)
        · rw [wi_i (by omega), wi_c (by decide)]
          exact m2.2 13 (by omega) (by omega) (by omega) (by omega)
        · rw [wi_c (by decide), wi_c (by decide)]
          exact m2.1 404 (by omega)
      · rw [if_neg c21, if_neg c21]
        exact ⟨μ2, rfl, M2, E2, fun z => absurd z (show ¬ (1 : Nat) = 0 by decide)⟩
    · rw [if_neg (fun z => c (q41.mp z))]
      split
      next heq =>
        have := congrArg (fun z => z.1.head?) heq
        simp at this
        exact absurd this c
      next heq =>
        cases heq
        exact stay
end STP
