/-! ===== a text grows by a clause, in both ===== -/
theorem tz_body_j {t v : Nat → Nat} {s i : Nat} {x : Nat × Nat × Nat} (h : tz_body t v s i = .inr x) : i < x.1 := by
  have on : ∀ {lo hi : Nat}, tz_one t v lo hi i = .inr x → i < x.1 := fun {lo hi} h => by
    unfold tz_one at h
    split at h
    · cases h
    · cases h
      show i < i + 1
      omega
  have pr : ∀ {lo hi w : Nat}, tz_pair t v lo hi w i = .inr x → i < x.1 := fun {lo hi w} h => by
    unfold tz_pair at h
    split at h
    · cases h
    · split at h
      · split at h
        · cases h
        · cases h
          show i < i + 1 + 1 + 1
          omega
      · cases h
  unfold tz_body at h
  repeat' split at h
  all_goals first | exact on h | exact pr h | (cases h; done)
theorem tz_end_r {t : Nat → Nat} {j : Nat} {a a' : tz_A} (h : tz_end t j a = .inr a') : a' = a := by
  unfold tz_end at h
  split at h
  · cases h
    rfl
  · cases h
theorem tz_cl_inr {t v : Nat → Nat} {M N B i p : Nat} {a : tz_A} (h : tz_cl t v M N B i p = some (.inr a)) : a.2.1 = t i ∧ t i ≤ 10 ∧ N ≠ 24 ∧ i < a.1 ∧ (t i < 3 → B.testBit (t i) = false ∧ ∃ j, a.1 = j + 1 ∧ pz_P t v (lk_of (t i)) M 0 0 (i + 1) p = some (.inr (j, a.2.2.2.2.1, a.2.2.2.2.2))) ∧ (3 ≤ t i → a.2.2.2.2 = ([], [])) := by
  unfold tz_cl at h
  by_cases c1 : 11 ≤ t i
  · rw [if_pos c1] at h; cases h
  rw [if_neg c1] at h
  by_cases c2 : t i < 3 ∧ B.testBit (t i) = true
  · rw [if_pos c2] at h; cases h
  rw [if_neg c2] at h
  by_cases c3 : N = 24
  · rw [if_pos c3] at h; cases h
  rw [if_neg c3] at h
  by_cases c4 : t i < 3
  · rw [if_pos c4] at h
    cases hP : pz_P t v (lk_of (t i)) M 0 0 (i + 1) p with
    | none => rw [hP] at h; cases h
    | some r =>
      rw [hP] at h
      cases r with
      | inl e => cases h
      | inr x =>
        have e := tz_end_r (Option.some.inj h)
        have pl := pz_len _ _ _ _ _ _ _ _ hP
        subst e
        exact ⟨rfl, by omega, c3, by show i < x.1 + 1; omega, fun _ => ⟨by
          cases q : B.testBit (t i)
          · rfl
          · exact absurd ⟨c4, q⟩ c2, x.1, rfl, rfl⟩, fun z => by omega⟩
  · rw [if_neg c4] at h
    cases hb : tz_body t v (t i) (i + 1) with
    | inl e => rw [hb] at h; cases h
    | inr x =>
      rw [hb] at h
      have e := tz_end_r (Option.some.inj h)
      have := tz_body_j hb
      subst e
      exact ⟨rfl, by omega, c3, by show i < x.1 + 1; omega, fun z => absurd z c4, fun _ => rfl⟩
theorem tz_cl_tot {t v : Nat → Nat} {N B i p cnt : Nat} (hc : t cnt = 53) (hcn : cnt ≤ 300) (hi : i ≤ cnt) (h53 : t i ≠ 53) : ∃ r, tz_cl t v 4000 N B i p = some r := by
  unfold tz_cl
  have hi2 := pz_nc hc hi rfl h53
  obtain ⟨r, hr⟩ := pz_tot (v := v) (lk := lk_of (t i)) hc 4000 0 0 (i + 1) p hi2 (show 10 * (cnt - (i + 1)) + 3 < 4000 by omega)
  rw [hr]
  split
  · exact ⟨_, rfl⟩
  split
  · exact ⟨_, rfl⟩
  split
  · exact ⟨_, rfl⟩
  split
  · cases r with
    | inl e => exact ⟨_, rfl⟩
    | inr x => exact ⟨_, rfl⟩
  · cases tz_body t v (t i) (i + 1) with
    | inl e => exact ⟨_, rfl⟩
    | inr x => exact ⟨_, rfl⟩
def LAWQ (μc μm : PM) (tx T s k P Fo : Nat) : Prop := ∃ (p f : Nat) (c m : pz_C), p + c.length < P ∧ f + m.length ≤ Fo ∧ μc.1 (tx + 4) s = nI p ∧ CW tx μc p c ∧ μc.1 (tx + 5) (p + c.length) = 53 ∧
  μm.1 404 (681 * T + 2 + 3 * k) = nI f ∧ μm.1 404 (681 * T + 3 + 3 * k) = nI (f + m.length) ∧
  (∀ j, j < m.length → μm.1 404 (681 * T + 73 + 2 * (f + j)) = nI (m.getD j (0, 0)).1 ∧ μm.1 404 (681 * T + 74 + 2 * (f + j)) = nI (m.getD j (0, 0)).2) ∧
  (∀ x ∈ c, x.1 < 64 ∧ x.2 < 10000 ∧ (x.1 = 10 → x.2 < vz_lim s)) ∧ (∀ x ∈ m, x.1 < 64 ∧ x.2 < 10000 ∧ (x.1 = 1 → x.2 < vz_lim s)) ∧
  ∀ (kn : Nat → Int) (ice : Int → Bool), (∀ j, j < 9 → -1000000 ≤ kn j ∧ kn j ≤ 1000000) → ∃ x, -1000000 ≤ x ∧ x ≤ 1000000 ∧ (∀ code, cz_has code p c → cz_to kn ice code (p, []) (p + c.length, [x])) ∧ mz_run kn ice m ([], []) = some ([x], [])
def TXN (μc μm : PM) (tx T N P Fo : Nat) : Prop := (∀ k, k < N → ∃ s : Nat, s ≤ 10 ∧ μc.1 (tx + 1) k = nI s ∧ μm.1 404 (681 * T + 1 + 3 * k) = nI s ∧ (3 ≤ s → μc.1 (tx + 2) k = μm.1 404 (681 * T + 2 + 3 * k) ∧ (s = 3 ∨ s = 4 ∨ s = 8 → μc.1 (tx + 3) k = μm.1 404 (681 * T + 3 + 3 * k)))) ∧
  ∀ s : Nat, s < 3 → (μc.1 (tx + 4) s = -1 ∧ ∀ k, k < N → μm.1 404 (681 * T + 1 + 3 * k) ≠ nI s) ∨ ∃ k, k < N ∧ μm.1 404 (681 * T + 1 + 3 * k) = nI s ∧ (∀ k', k' < k → μm.1 404 (681 * T + 1 + 3 * k') ≠ nI s) ∧ LAWQ μc μm tx T s k P Fo
theorem LAWQ_R {μc μm : PM} {T s k P Fo : Nat} (h : LAWQ μc μm (343 + 7 * T) T s k P Fo) (hP : P ≤ 320) (hF : Fo ≤ 304) : LAWR μc μm T s k := by
  obtain ⟨p, f, c, m, h1, h2, h3, h4, h5, h6, h7, h8, h9, h10, h11⟩ := h
  rw [show 343 + 7 * T + 4 = 347 + 7 * T by omega] at h3
  rw [show 343 + 7 * T + 5 = 348 + 7 * T by omega] at h5
  refine ⟨p, f, c, m, by omega, by omega, h3, fun j hj => ?_, h5, h6, h7, h8, h9, h10, h11⟩
  have := h4 j hj
  rw [show 343 + 7 * T + 5 = 348 + 7 * T by omega, show 343 + 7 * T + 6 = 349 + 7 * T by omega] at this
  exact this
theorem TXN_R {μc μm : PM} {T N P Fo : Nat} (h : TXN μc μm (343 + 7 * T) T N P Fo) (hP : P ≤ 320) (hF : Fo ≤ 304) (hN : N ≤ 24) (h1 : μc.1 (343 + 7 * T) 6 = nI N) (h2 : μm.1 404 (681 * T) = nI N) : TXR μc μm T := by
  obtain ⟨k1, k2⟩ := h
  rw [show 343 + 7 * T + 1 = 344 + 7 * T by omega, show 343 + 7 * T + 2 = 345 + 7 * T by omega, show 343 + 7 * T + 3 = 346 + 7 * T by omega] at k1
  refine ⟨N, hN, h1, h2, k1, fun s hs => ?_⟩
  rcases k2 s hs with ⟨a1, a2⟩ | ⟨k, a1, a2, a3, a4⟩
  · left
    rw [show 343 + 7 * T + 4 = 347 + 7 * T by omega] at a1
    exact ⟨a1, a2⟩
  · exact Or.inr ⟨k, a1, a2, a3, LAWQ_R a4 hP hF⟩
theorem nI_ne1 {p : Nat} (h : p < 2147483648) : ¬ nI p = -1 := fun z => nI_pos h (by rw [z]; decide)
theorem bits3 : ∀ B, B < 8 → ∀ s, s < 3 → B ||| 2 ^ s < 8 ∧ ∀ s', s' < 3 → (B ||| 2 ^ s).testBit s' = (B.testBit s' || decide (s' = s)) := by decide
/-- how both stand between two clauses -/
def TJ (μc μm : PM) (b : Nat → Nat) (n m T i N B p : Nat) (out : pz_C) : Prop := CS (343 + 7 * T) μc b n m i p ∧ p ≤ i ∧ μc.1 (343 + 7 * T) 6 = nI N ∧ N ≤ 24 ∧ (∀ s, s < 3 → (μc.1 (343 + 7 * T + 4) s = -1 ↔ B.testBit s = false)) ∧ B < 8 ∧
  TPM μm b n ∧ TM μm b n (tk_pos b n i) ∧ OUTM μm T out ∧ out.length ≤ i ∧ μm.1 404 (681 * T) = nI N ∧ μm.1 401 19 = nI B ∧ TXN μc μm (343 + 7 * T) T N p out.length
section EXT
variable {b : Nat → Nat} {n m T : Nat}
theorem OUTM_pre {μ μ' : PM} {out q : pz_C} (h : OUTM μ T out) (h' : OUTM μ' T (out ++ q)) {k : Nat} (hk : k < out.length) : μ'.1 404 (681 * T + 73 + 2 * k) = μ.1 404 (681 * T + 73 + 2 * k) ∧ μ'.1 404 (681 * T + 74 + 2 * k) = μ.1 404 (681 * T + 74 + 2 * k) := by
  have e : (out ++ q).getD k (0, 0) = out.getD k (0, 0) := by
    simp [List.getD_eq_getElem?_getD, List.getElem?_append_left hk]
  have a := h.2.2.2.2 k hk
  have a' := h'.2.2.2.2 k (by rw [List.length_append]; omega)
  rw [e] at a'
  exact ⟨a'.1.trans a.1.symm, a'.2.trans a.2.symm⟩
theorem TJ_ext {μc μm μc' μm' : PM} {i N B p : Nat} {out : pz_C} {a : tz_A} (hT : T < 4) (h : TJ μc μm b n m T i N B p out) (hr : tz_cl (tk_t b n) (tk_v b n) 4000 N B i p = some (.inr a)) (hC : CCR (343 + 7 * T) μc b n m N p (.inr a) (some μc')) (hM : CLM μm μm' b n T N B out a) : ∃ B' p' out', TJ μc' μm' b n m T a.1 (N + 1) B' p' out' ∧ i < a.1 := by
  obtain ⟨j1, j2, j3, j4, j5, j6, j7, j8, j9, j10, j11, j12, j13⟩ := h
  obtain ⟨r1, r2, r3, r4, r5, r6⟩ := tz_cl_inr hr
  have hN1 : N + 1 ≤ 24 := Nat.lt_of_le_of_ne j4 r3
  have hm := j1.1.1
  have him := j1.2.1
  obtain ⟨μ0, p', c0, c1, c2, c3, c4, c5, c6, c7, c8, c9, c10⟩ := hC
  cases c0
  obtain ⟨m1, m2, m3, m4, m5, m6, m7, m8, m9⟩ := hM
  obtain ⟨jj, s, x, y, c, q⟩ := a
  have r1 : s = tk_t b n i := r1
  have c2 : CS (343 + 7 * T) μc' b n m jj p' := c2
  have hjm : jj ≤ m := c2.2.1
  have r4 : i < jj := r4
  have c4 : μc'.1 (343 + 7 * T + 1) N = nI s := c4
  have c5 : μc'.1 (343 + 7 * T + 2) N = nI x := c5
  have c6 : μc'.1 (343 + 7 * T + 3) N = nI y := c6
  have c9 : 3 ≤ s → p' = p ∧ μc'.1 (343 + 7 * T + 4) = μc.1 (343 + 7 * T + 4) := c9
  have c10 : s < 3 → p' = p + c.length + 1 ∧ CW (343 + 7 * T) μc' p c ∧ μc'.1 (343 + 7 * T + 5) (p + c.length) = 53 ∧ μc'.1 (343 + 7 * T + 4) s = nI p ∧ ∀ s', s' ≠ s → μc'.1 (343 + 7 * T + 4) s' = μc.1 (343 + 7 * T + 4) s' := c10
  have m1 : TM μm' b n (tk_pos b n jj) := m1
  have m3 : OUTM μm' T (out ++ q) := m3
  have m4 : μm'.1 401 19 = nI (if s < 3 then B ||| 2 ^ s else B) := m4
  have m6 : μm'.1 404 (681 * T + 1 + 3 * N) = nI s := m6
  have m8 : s < 3 → μm'.1 404 (681 * T + 2 + 3 * N) = nI out.length ∧ μm'.1 404 (681 * T + 3 + 3 * N) = nI (out.length + q.length) := m8
  have m9 : 3 ≤ s → μm'.1 404 (681 * T + 2 + 3 * N) = nI x ∧ (s = 3 ∨ s = 4 ∨ s = 8 → μm'.1 404 (681 * T + 3 + 3 * N) = nI y) := m9
  have r6 : 3 ≤ tk_t b n i → (c, q) = ([], []) := r6
  have r5 : tk_t b n i < 3 → B.testBit (tk_t b n i) = false ∧ ∃ j, jj = j + 1 ∧ pz_P (tk_t b n) (tk_v b n) (lk_of (tk_t b n i)) 4000 0 0 (i + 1) p = some (.inr (j, c, q)) := r5
  rw [← r1] at r2 r5 r6
  have nes : ∀ s1 s2 : Nat, s1 < 64 → s2 < 64 → nI s1 = nI s2 → s1 = s2 := fun s1 s2 h1 h2 z => (nI_eq (by omega) (by omega)).mp z
  have hpp : p ≤ p' := by
    by_cases c3 : s < 3
    · have := (c10 c3).1
      omega
    · have := (c9 (by omega)).1
      omega
  have lenq : out.length + q.length ≤ jj ∧ p' ≤ jj := by
    by_cases c3 : s < 3
    · obtain ⟨-, j, ej, hP⟩ := r5 c3
      have pl := pz_len _ _ _ _ _ _ _ _ hP
      have := (c10 c3).1
      omega
    · have e := r6 (by omega)
      have e2 : q = [] := congrArg Prod.snd e
      have := (c9 (by omega)).1
      rw [e2]
      show out.length + 0 ≤ jj ∧ p' ≤ jj
      omega
  -- the laws that were there
  have keep : ∀ {s' k : Nat}, s' ≠ s ∨ 3 ≤ s → k < N → LAWQ μc μm (343 + 7 * T) T s' k p out.length → LAWQ μc' μm' (343 + 7 * T) T s' k p' (out ++ q).length := fun {s' k} hs hk hL => by
    obtain ⟨p0, f0, cc, mm, l1, l2, l3, l4, l5, l6, l7, l8, l9, l10, l11⟩ := hL
    refine ⟨p0, f0, cc, mm, by omega, by rw [List.length_append]; omega, ?_, CW_cb l4 c8 (by omega), (c8 _ (by omega)).1.trans l5, ?_, ?_, fun j hj => ?_, l9, l10, l11⟩
    · by_cases c3 : s < 3
      · exact ((c10 c3).2.2.2.2 s' (by omega)).trans l3
      · rw [(c9 (by omega)).2]
        exact l3
    · rw [m7 _ (by omega) (by omega)]
      exact l6
    · rw [m7 _ (by omega) (by omega)]
      exact l7
    · obtain ⟨o1, o2⟩ := OUTM_pre j9 m3 (k := f0 + j) (by omega)
      rw [o1, o2]
      exact l8 j hj
  have X : TXN μc' μm' (343 + 7 * T) T (N + 1) p' (out ++ q).length := by
    refine ⟨fun k hk => ?_, fun s' hs' => ?_⟩
    · by_cases ek : k = N
      · subst ek
        refine ⟨s, r2, c4, m6, fun z => ⟨?_, fun w => ?_⟩⟩
        · rw [c5, (m9 z).1]
        · rw [c6, (m9 z).2 w]
      · obtain ⟨s0, k1, k2, k3, k4⟩ := j13.1 k (by omega)
        obtain ⟨w1, w2, w3⟩ := c7 k ek
        refine ⟨s0, k1, w1.trans k2, ?_, fun z => ⟨?_, fun w => ?_⟩⟩
        · rw [m7 _ (by omega) (by omega)]
          exact k3
        · rw [m7 _ (by omega) (by omega), w2]
          exact (k4 z).1
        · rw [m7 _ (by omega) (by omega), w3]
          exact (k4 z).2 w
    · have old : ∀ k, k < N → μm'.1 404 (681 * T + 1 + 3 * k) = μm.1 404 (681 * T + 1 + 3 * k) := fun k hk => m7 _ (by omega) (by omega)
      by_cases es : s' = s
      · subst es
        obtain ⟨hb, j, ej, hP⟩ := r5 hs'
        have e1 : μc.1 (343 + 7 * T + 4) s' = -1 := (j5 s' hs').mpr hb
        have none : ∀ k, k < N → μm.1 404 (681 * T + 1 + 3 * k) ≠ nI s' := by
          rcases j13.2 s' hs' with ⟨-, a2⟩ | ⟨k, -, -, -, p0, f0, cc, mm, l1, l2, l3, -⟩
          · exact a2
          · exfalso
            rw [e1] at l3
            have := j1.2.2.1
            exact nI_ne1 (show p0 < 2147483648 by omega) l3.symm
        obtain ⟨d1, d2, d3, d4, d5⟩ := c10 hs'
        obtain ⟨f1, f2⟩ := m8 hs'
        have ok := okR_P (t := tk_t b n) (v := tk_v b n) (lk := lk_of s') (tkc_m j1.1) hm (fun i => by have := tk_t_le b n i; omega) 4000 0 0 (i + 1) p (by omega) (by omega) j c q hP
        have vl : ∀ z : Nat, z + 10 ≤ lk_of s' → z < vz_lim s' := fun z hz => by
          unfold lk_of at hz
          unfold vz_lim
          split at hz
          next e => rw [if_pos e]; omega
          next e =>
            split at hz
            next e2 => rw [if_neg e, if_pos e2]; omega
            next e2 => rw [if_neg e, if_neg e2]; omega
        refine Or.inr ⟨N, by omega, m6, fun k' hk' => by rw [old k' hk']; exact none k' hk', p, out.length, c, q, by omega, by rw [List.length_append]; omega, d4, d2, d3, f1, f2, fun j hj => ?_, fun x hx => ?_, fun x hx => ?_, fun kn ice hkn => ?_⟩
        · have hj : j < q.length := hj
          have o := m3.2.2.2.2 (out.length + j) (show out.length + j < (out ++ q).length by rw [List.length_append]; exact Nat.add_lt_add_left hj _)
          have e : (out ++ q).getD (out.length + j) (0, 0) = q.getD j (0, 0) := by
            simp [List.getD_eq_getElem?_getD, List.getElem?_append_right (Nat.le_add_right out.length j)]
          rw [e] at o
          exact o
        · obtain ⟨o1, o2, o3⟩ := ok.1 x hx
          exact ⟨o1, o2, fun z => vl _ (o3 z)⟩
        · obtain ⟨o1, o2, o3⟩ := ok.2 x hx
          exact ⟨o1, o2, fun z => vl _ (o3 z)⟩
        · exact ez_sum hkn hP (by have := lenq.2; omega)
      · have hne : s' ≠ s ∨ 3 ≤ s := Or.inl es
        have e4 : μc'.1 (343 + 7 * T + 4) s' = μc.1 (343 + 7 * T + 4) s' := by
          by_cases c3 : s < 3
          · exact (c10 c3).2.2.2.2 s' es
          · rw [(c9 (by omega)).2]
        rcases j13.2 s' hs' with ⟨a1, a2⟩ | ⟨k, a1, a2, a3, a4⟩
        · refine Or.inl ⟨e4.trans a1, fun k hk => ?_⟩
          by_cases ek : k = N
          · subst ek
            rw [m6]
            exact fun z => es (nes _ _ (by omega) (by omega) z).symm
          · rw [old k (by omega)]
            exact a2 k (by omega)
        · exact Or.inr ⟨k, by omega, by rw [old k a1]; exact a2, fun k' hk' => by rw [old k' (by omega)]; exact a3 k' hk', keep hne a1 a4⟩
  refine ⟨if s < 3 then B ||| 2 ^ s else B, p', out ++ q, ⟨c2, lenq.2, c3, hN1, fun s' hs' => ?_, ?_, TPM_eg j7 m2, m1, m3, by rw [List.length_append]; exact lenq.1, m5, m4, X⟩, r4⟩
  · by_cases c3 : s < 3
    · obtain ⟨b1, b2⟩ := bits3 B j6 s c3
      rw [if_pos c3, b2 s' hs']
      obtain ⟨d1, d2, d3, d4, d5⟩ := c10 c3
      by_cases es : s' = s
      · subst es
        rw [d4]
        have := j1.2.2.1
        exact ⟨fun z => absurd z (nI_ne1 (by omega)), fun z => by simp at z⟩
      · rw [d5 s' es, j5 s' hs', decide_eq_false es, Bool.or_false]
    · rw [if_neg c3, (c9 (by omega)).2]
      exact j5 s' hs'
  · by_cases c3 : s < 3
    · rw [if_pos c3]
      exact (bits3 B j6 s c3).1
    · rw [if_neg c3]
      exact j6
end EXT
