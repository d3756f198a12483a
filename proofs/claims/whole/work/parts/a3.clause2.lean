/-! ===== a clause of the reference ===== -/
def EG (T : Nat) (μ μ' : PM) : Prop := (∀ c, c ≠ 401 → c ≠ 404 → c ≠ 406 → μ'.1 c = μ.1 c) ∧ (∀ j, j ≤ 6 ∨ j = 12 ∨ j = 15 ∨ 20 ≤ j → μ'.1 401 j = μ.1 401 j) ∧ ∀ k, k < 681 * T ∨ 681 * T + 681 ≤ k → μ'.1 404 k = μ.1 404 k
theorem EG.rfl' (T : Nat) (μ : PM) : EG T μ μ := ⟨fun _ _ _ _ => rfl, fun _ _ => rfl, fun _ _ => rfl⟩
theorem EG.tr {T : Nat} {a b c : PM} (h : EG T a b) (h2 : EG T b c) : EG T a c := ⟨fun x k1 k2 k3 => (h2.1 x k1 k2 k3).trans (h.1 x k1 k2 k3), fun j hj => (h2.2.1 j hj).trans (h.2.1 j hj), fun k hk => (h2.2.2 k hk).trans (h.2.2 k hk)⟩
theorem NF.eg {μ μ' : PM} (h : NF μ μ') (T : Nat) : EG T μ μ' := ⟨fun c h1 _ _ => h.1 c h1, fun j hj => h.2 j (by omega) (by omega) (by omega) (by omega), fun k _ => by rw [h.1 404 (by decide)]⟩
theorem EF.eg {T : Nat} {μ μ' : PM} (h : EF T μ μ') : EG T μ μ' := ⟨h.1, fun j hj => h.2.1 j (by omega), fun k hk => h.2.2 k (by omega)⟩
theorem BF.eg {A T : Nat} {μ μ' : PM} (h : BF A μ μ') (h1 : 681 * T ≤ A) (h2 : A + 2 < 681 * T + 681) : EG T μ μ' := ⟨fun c k1 k2 _ => h.1 c k1 k2, fun j hj => h.2.1 j (by omega) (by omega) (by omega) (by omega), fun k hk => h.2.2 k (by omega) (by omega)⟩
theorem EG.wi1 {T i : Nat} {v : Int32} {μ μ' : PM} (h : EG T μ μ') (hi : (7 ≤ i ∧ i ≤ 11) ∨ i = 13 ∨ i = 14 ∨ (16 ≤ i ∧ i ≤ 19)) : EG T μ (pm_wi μ' 401 i v) := ⟨fun c k1 k2 k3 => (wi_c k1).trans (h.1 c k1 k2 k3), fun j hj => (wi_i (by omega)).trans (h.2.1 j hj), fun k hk => by rw [wi_c (by decide)]; exact h.2.2 k hk⟩
theorem EG.wi4 {T k : Nat} {v : Int32} {μ μ' : PM} (h : EG T μ μ') (h1 : 681 * T ≤ k) (h2 : k < 681 * T + 681) : EG T μ (pm_wi μ' 404 k v) := ⟨fun c k1 k2 k3 => (wi_c k2).trans (h.1 c k1 k2 k3), fun j hj => by rw [wi_c (by decide)]; exact h.2.1 j hj, fun k' hk => (wi_i (by omega)).trans (h.2.2 k' hk)⟩
theorem TPM_eg {μ μ' : PM} {b : Nat → Nat} {n T : Nat} (h : TPM μ b n) (hE : EG T μ μ') : TPM μ' b n := ⟨(hE.2.1 4 (by omega)).trans h.1, h.2.1, fun k hk => by rw [hE.1 405 (by omega) (by omega) (by omega)]; exact h.2.2 k hk⟩
theorem OUTM_eq2 {μ μ' : PM} {T : Nat} {out : pz_C} (h : OUTM μ T out) (h1 : μ'.1 401 12 = μ.1 401 12) (h2 : μ'.1 401 13 = μ.1 401 13) (h3 : ∀ k, 681 * T + 73 ≤ k → μ'.1 404 k = μ.1 404 k) : OUTM μ' T out := by
  obtain ⟨k1, k2, k3, k4, k5⟩ := h
  exact ⟨h1.trans k1, k2, k3, h2.trans k4, fun j hj => by rw [h3 _ (by omega), h3 _ (by omega)]; exact k5 j hj⟩
/-- how the body of a clause stands in the reference -/
def CBR (μ : PM) (b : Nat → Nat) (n T A s : Nat) (out : pz_C) (r : (Nat × Nat) ⊕ (Nat × Nat × Nat × pz_C)) (p : Option (Int32 × PM)) : Prop := match r with
  | .inl e => e.1 ≠ 0 ∧ e.1 < 1000 ∧ ∃ μ', p = some (nI e.1, μ') ∧ TM μ' b n (tk_pos b n e.2) ∧ EG T μ μ'
  | .inr x => ∃ μ', p = some (0, μ') ∧ TM μ' b n (tk_pos b n x.1) ∧ EG T μ μ' ∧ OUTM μ' T (out ++ x.2.2.2) ∧ μ'.1 401 19 = μ.1 401 19 ∧ (∀ k, k < 681 * T + 73 → k ≠ A + 1 → k ≠ A + 2 → μ'.1 404 k = μ.1 404 k) ∧ (s < 3 → μ'.1 404 (A + 1) = nI out.length ∧ μ'.1 404 (A + 2) = nI (out.length + x.2.2.2.length)) ∧ (3 ≤ s → μ'.1 404 (A + 1) = nI x.2.1 ∧ (s = 3 ∨ s = 4 ∨ s = 8 → μ'.1 404 (A + 2) = nI x.2.2.1))
section CLM
variable {b : Nat → Nat} {n T : Nat}
theorem tz_body_e {t v : Nat → Nat} {s i : Nat} {e : Nat × Nat} (h : tz_body t v s i = .inl e) : e.1 ≤ 7 := by
  have fg : ∀ {lo hi i : Nat} {e : Nat × Nat}, tz_fig t v lo hi i = .inl e → e.1 ≤ 2 := fun {lo hi i e} h => by
    unfold tz_fig at h
    repeat' split at h
    all_goals first | (cases h; done) | (cases h; exact Nat.le_refl _) | (cases h; exact Nat.le_succ _)
  have on : ∀ {lo hi i : Nat} {e : Nat × Nat}, tz_one t v lo hi i = .inl e → e.1 ≤ 7 := fun {lo hi i e} h => by
    unfold tz_one at h
    split at h
    next q => cases h; have := fg q; omega
    · cases h
  have pr : ∀ {lo hi w i : Nat} {e : Nat × Nat}, tz_pair t v lo hi w i = .inl e → e.1 ≤ 7 := fun {lo hi w i e} h => by
    unfold tz_pair at h
    split at h
    next q => cases h; have := fg q; omega
    · split at h
      · split at h
        next q => cases h; have := fg q; omega
        · cases h
      · cases h
        show (1 : Nat) ≤ 7
        omega
  unfold tz_body at h
  repeat' split at h
  all_goals first | exact on h | exact pr h | (cases h; show (7 : Nat) ≤ 7; omega)
theorem pz_e5 {t v : Nat → Nat} {lk : Nat} {n i p : Nat} {e : Nat × Nat} (hr : pz_P t v lk n 0 0 i p = some (.inl e)) : e.1 ≤ 5 := by
  obtain ⟨s', -, -, h⟩ := az_sum (out := []) hr (Nat.zero_le _)
  exact (az_step_e h).1
theorem q_bodyL {μ : PM} {i A s M p : Nat} {out : pz_C} {r : pz_R} (hT : TPM μ b n) (hM : TM μ b n (tk_pos b n i)) (hO : OUTM μ T out) (ho : out.length ≤ i) (hi : i ≤ n) (hs : μ.1 401 14 = nI s) (h3 : s < 3) (ha : 681 * T ≤ A) (ha2 : A + 2 < 681 * T + 73) (hr : pz_P (tk_t b n) (tk_v b n) (lk_of s) M 0 0 i p = some r) :
    CBR μ b n T A s out (match r with
      | .inl e => .inl e
      | .inr x => .inr (x.1, 0, 0, x.2.2)) (fX12_body μ (nI s) (nI A)) := by
  have hT4 : T < 4 := hO.2.1
  have ne : ∀ j : Nat, j < 64 → s ≠ j → ¬ nI s = (OfNat.ofNat j : Int32) := fun j hj q z => q ((eq_l (n := j) (by omega) (by omega)).mp z)
  have e5 := @pz_e5 (tk_t b n) (tk_v b n) (lk_of s) M i p
  unfold fX12_body
  rw [if_neg (ne 3 (by omega) (by omega)), if_neg (ne 4 (by omega) (by omega)), if_neg (ne 5 (by omega) (by omega)), if_neg (ne 6 (by omega) (by omega)), if_neg (ne 7 (by omega) (by omega)), if_neg (ne 8 (by omega) (by omega)), if_neg (ne 9 (by omega) (by omega)), if_neg (ne 10 (by omega) (by omega)), id_b]
  unfold fX12_lawClause
  simp only [go_let]
  rw [add_l 1, add_l 2, chk_n (show A + 1 < 2724 by omega) (by omega), cl_n (show A + 1 < 2147483648 by omega), hO.2.2.2.1]
  have E1 : EG T μ (pm_wi μ 404 (A + 1) (nI out.length)) := (EG.rfl' T μ).wi4 (by omega) (by omega)
  have O1 : OUTM (pm_wi μ 404 (A + 1) (nI out.length)) T out := OUTM_eq2 hO (by rw [wi_c (by decide)]) (by rw [wi_c (by decide)]) (fun k hk => wi_i (by omega))
  have q := q_summed (TPM_eg hT E1) (TM_sf hM (fun j _ _ => by rw [wi_c (by decide)]) rfl) O1 ho hi (by rw [wi_c (by decide)]; exact hs) h3 hr
  cases r with
  | inl e =>
    obtain ⟨q0, μ', q1, q2, q3⟩ := q
    rw [q1, Option.bind_some, chk_n (show A + 2 < 2724 by omega) (by omega), cl_n (show A + 2 < 2147483648 by omega)]
    have := e5 hr
    exact ⟨q0, by show e.1 < 1000; omega, _, rfl, TM_sf q2 (fun j _ _ => by rw [wi_c (by decide)]) rfl, (E1.tr q3.eg).wi4 (by omega) (by omega)⟩
  | inr x =>
    obtain ⟨μ', q1, q2, q3, q4⟩ := q
    rw [q1, Option.bind_some, chk_n (show A + 2 < 2724 by omega) (by omega), cl_n (show A + 2 < 2147483648 by omega)]
    refine ⟨_, rfl, TM_sf q2 (fun j _ _ => by rw [wi_c (by decide)]) rfl, (E1.tr q4.eg).wi4 (by omega) (by omega), OUTM_eq2 q3 (by rw [wi_c (by decide)]) (by rw [wi_c (by decide)]) (fun k hk => wi_i (by omega)), ?_, fun k hk k1 k2 => ?_, fun _ => ⟨?_, ?_⟩, fun z => by omega⟩
    · rw [wi_c (by decide), q4.2.1 19 (by omega), wi_c (by decide)]
    · rw [wi_i k2, q4.2.2 k (by omega), wi_i k1]
    · rw [wi_i (by omega), q4.2.2 (A + 1) (by omega), wi_e]
    · rw [wi_e]
      show μ'.1 401 13 = _
      rw [q3.2.2.2.1, List.length_append]
theorem q_bodyN {μ : PM} {i A s : Nat} {out : pz_C} (hT : TPM μ b n) (hM : TM μ b n (tk_pos b n i)) (hO : OUTM μ T out) (h3 : 3 ≤ s) (h10 : s ≤ 10) (ha : 681 * T ≤ A) (ha2 : A + 2 < 681 * T + 73) :
    CBR μ b n T A s out (match tz_body (tk_t b n) (tk_v b n) s i with
      | .inl e => .inl e
      | .inr x => .inr (x.1, x.2.1, x.2.2, [])) (fX12_body μ (nI s) (nI A)) := by
  have hT4 : T < 4 := hO.2.1
  have q := q_body (s := s) (A := A) hT hM (by omega) h3 h10
  have he := @tz_body_e (tk_t b n) (tk_v b n) s i
  generalize tz_body (tk_t b n) (tk_v b n) s i = r at q he ⊢
  cases r with
  | inl e =>
    obtain ⟨q0, μ', q1, q2, q3⟩ := q
    have := he (e := e) rfl
    exact ⟨q0, by show e.1 < 1000; omega, μ', q1, q2, q3.eg ha (by omega)⟩
  | inr x =>
    obtain ⟨μ', q1, q2, q3, q4, q5⟩ := q
    refine ⟨μ', q1, q2, q3.eg ha (by omega), ?_, q3.2.1 19 (by omega) (by omega) (by omega) (by omega), fun k _ k1 k2 => q3.2.2 k k1 k2, fun z => by omega, fun _ => ⟨q4, q5⟩⟩
    show OUTM μ' T (out ++ [])
    rw [List.append_nil]
    exact OUTM_eq2 hO (q3.2.1 12 (by omega) (by omega) (by omega) (by omega)) (q3.2.1 13 (by omega) (by omega) (by omega) (by omega)) (fun k hk => q3.2.2 k (by omega) (by omega))
/-- what a clause leaves in the reference -/
def CLM (μ μ' : PM) (b : Nat → Nat) (n T N B : Nat) (out : pz_C) (a : tz_A) : Prop := TM μ' b n (tk_pos b n a.1) ∧ EG T μ μ' ∧ OUTM μ' T (out ++ a.2.2.2.2.2) ∧ μ'.1 401 19 = nI (if a.2.1 < 3 then B ||| 2 ^ a.2.1 else B) ∧ μ'.1 404 (681 * T) = nI (N + 1) ∧ μ'.1 404 (681 * T + 1 + 3 * N) = nI a.2.1 ∧ (∀ k, 681 * T < k → k < 681 * T + 1 + 3 * N → μ'.1 404 k = μ.1 404 k) ∧ (a.2.1 < 3 → μ'.1 404 (681 * T + 2 + 3 * N) = nI out.length ∧ μ'.1 404 (681 * T + 3 + 3 * N) = nI (out.length + a.2.2.2.2.2.length)) ∧ (3 ≤ a.2.1 → μ'.1 404 (681 * T + 2 + 3 * N) = nI a.2.2.1 ∧ (a.2.1 = 3 ∨ a.2.1 = 4 ∨ a.2.1 = 8 → μ'.1 404 (681 * T + 3 + 3 * N) = nI a.2.2.2.1))
def CLR (μ : PM) (b : Nat → Nat) (n T N B : Nat) (out : pz_C) (r : (Nat × Nat) ⊕ tz_A) (o : Option (Int32 × PM)) : Prop := match r with
  | .inl e => e.1 ≠ 0 ∧ ∃ μ', o = some (nI e.1, μ') ∧ TM μ' b n (tk_pos b n e.2) ∧ EG T μ μ'
  | .inr a => ∃ μ', o = some (0, μ') ∧ CLM μ μ' b n T N B out a
def cl_T (q9 : Int32 × PM) : Option (Int32 × PM) := (if q9.1 = 0 then go_chk (q9.2.1 401 12) 2724 <| go_chk (q9.2.1 401 12) 2724 <| (if ((pm_wi q9.2 404 ((q9.2.1 401 12) : Int32).toNatClampNeg ((q9.2.1 404 ((q9.2.1 401 12) : Int32).toNatClampNeg) + 1)).1 401 9) = 59 then (fX12_nextToken (pm_wi q9.2 404 ((q9.2.1 401 12) : Int32).toNatClampNeg ((q9.2.1 404 ((q9.2.1 401 12) : Int32).toNatClampNeg) + 1))).bind fun q13 => some ((0, q13)) else some ((1, pm_wi q9.2 404 ((q9.2.1 401 12) : Int32).toNatClampNeg ((q9.2.1 404 ((q9.2.1 401 12) : Int32).toNatClampNeg) + 1)))) else some ((q9.1, q9.2)))
/-- from its body to the end of a clause -/
theorem q_cl65 {μ : PM} {i N B s M p : Nat} {out : pz_C} {r : (Nat × Nat) ⊕ tz_A} (hT : TPM μ b n) (hM : TM μ b n (tk_pos b n i)) (hO : OUTM μ T out) (ho : out.length ≤ i) (hi : i < n) (hN : μ.1 404 (681 * T) = nI N) (hN24 : N < 24) (hs : s ≤ 10)
    (hB : μ.1 401 19 = nI (if s < 3 then B ||| 2 ^ s else B))
    (hr : (if s < 3 then (match pz_P (tk_t b n) (tk_v b n) (lk_of s) M 0 0 (i + 1) p with
      | none => none
      | some (.inl e) => some (.inl e)
      | some (.inr x) => some (tz_end (tk_t b n) x.1 (x.1 + 1, s, 0, 0, x.2.1, x.2.2)))
    else (match tz_body (tk_t b n) (tk_v b n) s (i + 1) with
      | .inl e => some (.inl e)
      | .inr x => some (tz_end (tk_t b n) x.1 (x.1 + 1, s, x.2.1, x.2.2, [], [])))) = some r) : CLR μ b n T N B out r (jjX12_clause_65 μ (nI s) (nI N)) := by
  have hT4 : T < 4 := hO.2.1
  have E4 : EG T μ (pm_wi μ 401 14 (nI s)) := (EG.rfl' T μ).wi1 (by omega)
  obtain ⟨μ5, m1, m2, m3⟩ := tm_next (TPM_eg hT E4) (TM_sf hM (fun j _ _ => wi_i (by omega)) rfl)
  have E5 := E4.tr (m2.eg T)
  have g5 : ∀ j, j ≠ 7 → j ≠ 8 → j ≠ 9 → j ≠ 10 → j ≠ 14 → μ5.1 401 j = μ.1 401 j := fun j j7 j8 j9 j10 j14 => (m2.2 j j7 j8 j9 j10).trans (wi_i j14)
  have h4 : μ5.1 404 = μ.1 404 := (m2.1 404 (by decide)).trans (wi_c (by decide))
  have e12 : μ5.1 401 12 = nI (681 * T) := (g5 12 (by omega) (by omega) (by omega) (by omega) (by omega)).trans hO.1
  have eA : nI (681 * T) + 1 + 3 * nI N = nI (681 * T + 1 + 3 * N) := by rw [l_mul 3, add_l 1, nI_add]
  unfold jjX12_clause_65
  simp only [go_let]
  rw [m1, Option.bind_some, e12, eA, chk_n (show 681 * T + 1 + 3 * N < 2724 by omega) (by omega), cl_n (show 681 * T + 1 + 3 * N < 2147483648 by omega)]
  have E7 : EG T μ (pm_wi μ5 404 (681 * T + 1 + 3 * N) (nI s)) := E5.wi4 (by omega) (by omega)
  have T7 := TPM_eg hT E7
  have M7 : TM (pm_wi μ5 404 (681 * T + 1 + 3 * N) (nI s)) b n (tk_pos b n (i + 1)) := TM_sf m3 (fun j _ _ => by rw [wi_c (by decide)]) rfl
  have O7 : OUTM (pm_wi μ5 404 (681 * T + 1 + 3 * N) (nI s)) T out := OUTM_eq2 hO (by rw [wi_c (by decide)]; exact g5 12 (by omega) (by omega) (by omega) (by omega) (by omega)) (by rw [wi_c (by decide)]; exact g5 13 (by omega) (by omega) (by omega) (by omega) (by omega)) (fun k hk => by rw [wi_i (by omega), h4])
  have s7 : (pm_wi μ5 404 (681 * T + 1 + 3 * N) (nI s)).1 401 14 = nI s := by rw [wi_c (by decide), m2.2 14 (by omega) (by omega) (by omega) (by omega), wi_e]
  have b7 : (pm_wi μ5 404 (681 * T + 1 + 3 * N) (nI s)).1 401 19 = nI (if s < 3 then B ||| 2 ^ s else B) := by rw [wi_c (by decide)]; exact (g5 19 (by omega) (by omega) (by omega) (by omega) (by omega)).trans hB
  have f7 : ∀ k, k ≠ 681 * T + 1 + 3 * N → (pm_wi μ5 404 (681 * T + 1 + 3 * N) (nI s)).1 404 k = μ.1 404 k := fun k hk => by rw [wi_i hk, h4]
  have a7 : (pm_wi μ5 404 (681 * T + 1 + 3 * N) (nI s)).1 404 (681 * T + 1 + 3 * N) = nI s := wi_e
  generalize pm_wi μ5 404 (681 * T + 1 + 3 * N) (nI s) = μ7 at E7 T7 M7 O7 s7 b7 f7 a7 ⊢
  have tail : ∀ (j x y : Nat) (c m : pz_C), tz_end (tk_t b n) j (j + 1, s, x, y, c, m) = r → CBR μ7 b n T (681 * T + 1 + 3 * N) s out (.inr (j, x, y, m)) (fX12_body μ7 (nI s) (nI (681 * T + 1 + 3 * N))) → CLR μ b n T N B out r ((fX12_body μ7 (nI s) (nI (681 * T + 1 + 3 * N))).bind cl_T) := by
    intro j x y c m hend hC
    obtain ⟨μ9, c1, c2, c3, c4, c5, c6, c7, c8⟩ := hC
    have c2 : TM μ9 b n (tk_pos b n j) := c2
    have c4 : OUTM μ9 T (out ++ m) := c4
    have n9 : μ9.1 404 (681 * T) = nI N := by rw [c6 _ (by omega) (by omega) (by omega), f7 _ (by omega)]; exact hN
    have e11 : (pm_wi μ9 404 (681 * T) (nI (N + 1))).1 401 9 = μ9.1 401 9 := by rw [wi_c (by decide)]
    have E11 : EG T μ (pm_wi μ9 404 (681 * T) (nI (N + 1))) := (E7.tr c3).wi4 (by omega) (by omega)
    have M11 : TM (pm_wi μ9 404 (681 * T) (nI (N + 1))) b n (tk_pos b n j) := TM_sf c2 (fun j _ _ => by rw [wi_c (by decide)]) rfl
    have T9 := TPM_eg hT (E7.tr c3)
    have k50 : μ9.1 401 9 = 59 ↔ tk_t b n j = 50 := tm_sign (p := (59, 50)) T9 c2 (by decide)
    rw [c1, Option.bind_some]
    unfold cl_T
    dsimp only
    rw [if_pos rfl, c4.1, chk_n (show 681 * T < 2724 by omega) (by omega), chk_n (show 681 * T < 2724 by omega) (by omega), cl_n (show 681 * T < 2147483648 by omega), n9, add_l 1, e11]
    unfold tz_end at hend
    by_cases ce : tk_t b n j = 50
    · rw [if_pos ce] at hend
      subst hend
      rw [if_pos (k50.mpr ce)]
      obtain ⟨μ12, d1, d2, d3⟩ := tm_next (TPM_eg hT E11) M11
      have d4 : μ12.1 404 = (pm_wi μ9 404 (681 * T) (nI (N + 1))).1 404 := d2.1 404 (by decide)
      have d5 : ∀ k, k ≠ 681 * T → μ12.1 404 k = μ9.1 404 k := fun k hk => by rw [d4, wi_i hk]
      refine ⟨μ12, by rw [d1, Option.bind_some], d3, E11.tr (d2.eg T), ?_, ?_, ?_, ?_, fun k k1 k2 => ?_, fun z => ?_, fun z => ?_⟩
      · exact OUTM_eq2 c4 (by rw [d2.2 12 (by omega) (by omega) (by omega) (by omega), wi_c (by decide)]) (by rw [d2.2 13 (by omega) (by omega) (by omega) (by omega), wi_c (by decide)]) (fun k hk => d5 k (by omega))
      · rw [d2.2 19 (by omega) (by omega) (by omega) (by omega), wi_c (by decide), c5]
        exact b7
      · rw [d4, wi_e]
      · rw [d5 _ (by omega), c6 _ (by omega) (by omega) (by omega)]
        exact a7
      · rw [d5 k (by omega), c6 k (by omega) (by omega) (by omega), f7 k (by omega)]
      · obtain ⟨w1, w2⟩ := c7 z
        rw [d5 _ (by omega), d5 _ (by omega)]
        rw [show 681 * T + 2 + 3 * N = 681 * T + 1 + 3 * N + 1 by omega, show 681 * T + 3 + 3 * N = 681 * T + 1 + 3 * N + 2 by omega]
        exact ⟨w1, w2⟩
      · obtain ⟨w1, w2⟩ := c8 z
        rw [d5 _ (by omega), d5 _ (by omega)]
        rw [show 681 * T + 2 + 3 * N = 681 * T + 1 + 3 * N + 1 by omega, show 681 * T + 3 + 3 * N = 681 * T + 1 + 3 * N + 2 by omega]
        exact ⟨w1, w2⟩
    · rw [if_neg ce] at hend
      subst hend
      rw [if_neg (fun z => ce (k50.mp z))]
      exact ⟨by show (1 : Nat) ≠ 0; decide, _, rfl, M11, E11⟩
  have flt : ∀ e, r = .inl e → CBR μ7 b n T (681 * T + 1 + 3 * N) s out (.inl e) (fX12_body μ7 (nI s) (nI (681 * T + 1 + 3 * N))) → CLR μ b n T N B out r ((fX12_body μ7 (nI s) (nI (681 * T + 1 + 3 * N))).bind cl_T) := by
    intro e he hC
    obtain ⟨c0, cb, μ9, c1, c2, c3⟩ := hC
    subst he
    rw [c1, Option.bind_some]
    unfold cl_T
    dsimp only
    rw [if_neg (fun z => c0 ((eq_l (n := 0) (by omega) (by omega)).mp z))]
    exact ⟨c0, μ9, rfl, c2, E7.tr c3⟩
  by_cases c3 : s < 3
  · rw [if_pos c3] at hr
    cases hp : pz_P (tk_t b n) (tk_v b n) (lk_of s) M 0 0 (i + 1) p with
    | none => rw [hp] at hr; cases hr
    | some r' =>
      have q := q_bodyL (A := 681 * T + 1 + 3 * N) T7 M7 O7 (by omega) (by omega) s7 c3 (by omega) (by omega) hp
      rw [hp] at hr
      cases r' with
      | inl e =>
        cases hr
        exact flt e rfl q
      | inr x => exact tail x.1 0 0 x.2.1 x.2.2 (Option.some.inj hr) q
  · rw [if_neg c3] at hr
    have q := q_bodyN (A := 681 * T + 1 + 3 * N) (s := s) T7 M7 O7 (by omega) hs (by omega) (by omega)
    generalize tz_body (tk_t b n) (tk_v b n) s (i + 1) = r' at hr q
    cases r' with
    | inl e =>
      cases hr
      exact flt e rfl q
    | inr x => exact tail x.1 x.2.1 x.2.2 [] [] (Option.some.inj hr) q
theorem q_clauseM {μ : PM} {i N B M p : Nat} {out : pz_C} {r : (Nat × Nat) ⊕ tz_A} (hT : TPM μ b n) (hM : TM μ b n (tk_pos b n i)) (hO : OUTM μ T out) (ho : out.length ≤ i) (h53 : tk_t b n i ≠ 53) (hN : μ.1 404 (681 * T) = nI N) (hN24 : N ≤ 24) (hB : μ.1 401 19 = nI B) (hB8 : B < 8) (hr : tz_cl (tk_t b n) (tk_v b n) M N B i p = some r) : CLR μ b n T N B out r (fX12_clause μ) := by
  have hT4 : T < 4 := hO.2.1
  have hi := tk_t_lt h53
  unfold fX12_clause
  simp only [go_let]
  rw [tm_sort hT hM]
  unfold tz_cl at hr
  by_cases c11 : 11 ≤ tk_t b n i
  · rw [if_pos c11] at hr
    cases hr
    rw [if_neg (show ¬ tk_t b n i < 11 by omega), if_neg (show ¬ (0 : Int32) ≤ -1 by decide)]
    exact ⟨by show (1 : Nat) ≠ 0; decide, μ, rfl, hM, EG.rfl' T μ⟩
  rw [if_neg c11] at hr
  rw [if_pos (show tk_t b n i < 11 by omega)]
  generalize hs : tk_t b n i = s at hr c11 ⊢
  have l2 : (2 : Int32) < nI s ↔ ¬ s < 3 := by
    rw [show (2 : Int32) = nI 2 from rfl, lt_n (by omega) (by omega)]
    omega
  have q24 : nI N = 24 ↔ N = 24 := eq_l (n := 24) (by omega) (by omega)
  rw [if_pos (show (0 : Int32) ≤ nI s by rw [l_le (n := 0) (by omega) (by omega)]; omega)]
  have j29 : (¬ (s < 3 ∧ B.testBit s = true)) → CLR μ b n T N B out r (jjX12_clause_29 μ (nI s)) := by
    intro hb
    rw [if_neg hb] at hr
    unfold jjX12_clause_29
    simp only [go_let]
    rw [hO.1, chk_n (show 681 * T < 2724 by omega) (by omega), cl_n (show 681 * T < 2147483648 by omega), hN]
    by_cases c24 : N = 24
    · rw [if_pos c24] at hr
      cases hr
      rw [if_pos (q24.mpr c24)]
      exact ⟨by show (6 : Nat) ≠ 0; decide, μ, rfl, hM, EG.rfl' T μ⟩
    rw [if_neg c24] at hr
    rw [if_neg (fun z => c24 (q24.mp z))]
    by_cases c3 : s < 3
    · rw [if_neg (fun z => l2.mp z c3), hB, nb_set (show s < 31 by omega)]
      have E1 : EG T μ (pm_wi μ 401 19 (nI (B ||| 2 ^ s))) := (EG.rfl' T μ).wi1 (by omega)
      have q := q_cl65 (μ := pm_wi μ 401 19 (nI (B ||| 2 ^ s))) (N := N) (B := B) (s := s) (TPM_eg hT E1) (TM_sf hM (fun j _ _ => wi_i (by omega)) rfl) (OUTM_eq2 hO (wi_i (by omega)) (wi_i (by omega)) (fun k _ => by rw [wi_c (by decide)])) ho hi (by rw [wi_c (by decide)]; exact hN) (by omega) (by omega) (by rw [wi_e, if_pos c3]) hr
      cases r with
      | inl e =>
        obtain ⟨q0, μ', q1, q2, q3⟩ := q
        exact ⟨q0, μ', q1, q2, E1.tr q3⟩
      | inr a =>
        obtain ⟨μ', q1, q2, q3, q4, q5, q6, q7, q8, q9⟩ := q
        exact ⟨μ', q1, q2, E1.tr q3, q4, q5, q6, q7, fun k k1 k2 => by rw [q8 k k1 k2, wi_c (by decide)], q9⟩
    · rw [if_pos (l2.mpr c3)]
      exact q_cl65 hT hM hO ho hi hN (by omega) (by omega) (by rw [if_neg c3]; exact hB) hr
  by_cases c3 : s < 3
  · rw [if_neg (fun z => l2.mp z c3), hB, nb_has (by omega) (by omega), q_ite]
    by_cases cb : B.testBit s = true
    · rw [if_pos ⟨c3, cb⟩] at hr
      cases hr
      rw [if_pos cb]
      exact ⟨by show (4 : Nat) ≠ 0; decide, μ, rfl, hM, EG.rfl' T μ⟩
    · rw [if_neg cb]
      exact j29 (fun z => cb z.2)
  · rw [if_pos (l2.mpr c3)]
    exact j29 (fun z => c3 z.1)
end CLM
