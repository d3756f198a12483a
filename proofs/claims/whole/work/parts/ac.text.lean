/-! ===== a text, in both ===== -/
section TXL
variable {b : Nat → Nat} {n m T : Nat}
theorem tx_loop (hT : T < 4) (a1 : Int32) : ∀ k i N B p out μc μm fc fm, m - i ≤ k → TJ μc μm b n m T i N B p out → k + 2 ≤ fc → k + 2 ≤ fm → ∃ μc' μm' e, lp (fun s => lbX6_readInto_58 (343 + 7 * T) a1 s.1 s.2) fc (nI N, μc) = some μc' ∧ lp (fun s => lbX12_readText_43 s) fm μm = some (nI e, μm') ∧ CG (343 + 7 * T) μc μc' ∧ EG T μm μm' ∧ e ≤ 7 ∧ μc'.1 372 8 = nI e ∧ (e ≠ 0 → μc'.1 372 9 = μm'.1 401 8) ∧ (e = 0 → μc'.1 372 9 = -1 ∧ TXR μc' μm' T) := by
  intro k
  induction k with
  | zero =>
    intro i N B p out μc μm fc fm hk h hfc hfm
    have htx : 343 ≤ 343 + 7 * T ∧ 343 + 7 * T ≤ 364 := by omega
    obtain ⟨j1, j2, j3, j4, j5, j6, j7, j8, j9, j10, j11, j12, j13⟩ := h
    have hm := j1.1.1
    have him := j1.2.1
    have ei : i = m := by omega
    have e53 : tk_t b n i = 53 := by rw [ei]; exact tkc_m j1.1
    obtain ⟨fc, rfl⟩ : ∃ f, fc = f + 1 := ⟨fc - 1, by omega⟩
    obtain ⟨fm, rfl⟩ : ∃ f, fm = f + 1 := ⟨fm - 1, by omega⟩
    refine ⟨μc, μm, 0, lp_e ?_, lp_e ?_, CG.rfl' _ _, EG.rfl' _ _, by omega, j1.2.2.2.2.2.1.1, fun z => absurd rfl z, fun _ => ⟨j1.2.2.2.2.2.1.2, TXN_R j13 (by omega) (by omega) j4 j3 j11⟩⟩
    · dsimp only
      unfold lbX6_readInto_58
      rw [if_neg (show ¬ (24 : Int32) < nI N by rw [l_lt (n := 24) (by omega) (by omega)]; omega), if_pos ((cs_is (x := 53) j1 (by omega)).mpr e53)]
    · unfold lbX12_readText_43
      rw [if_pos ((tm_end j7 j8).mpr e53)]
      rfl
  | succ k ih =>
    intro i N B p out μc μm fc fm hk h hfc hfm
    have htx : 343 ≤ 343 + 7 * T ∧ 343 + 7 * T ≤ 364 := by omega
    have hJ := h
    obtain ⟨j1, j2, j3, j4, j5, j6, j7, j8, j9, j10, j11, j12, j13⟩ := h
    have hm := j1.1.1
    have him := j1.2.1
    obtain ⟨fc, rfl⟩ : ∃ f, fc = f + 1 := ⟨fc - 1, by omega⟩
    obtain ⟨fm, rfl⟩ : ∃ f, fm = f + 1 := ⟨fm - 1, by omega⟩
    have c24 : ¬ (24 : Int32) < nI N := by rw [l_lt (n := 24) (by omega) (by omega)]; omega
    by_cases e53 : tk_t b n i = 53
    · refine ⟨μc, μm, 0, lp_e ?_, lp_e ?_, CG.rfl' _ _, EG.rfl' _ _, by omega, j1.2.2.2.2.2.1.1, fun z => absurd rfl z, fun _ => ⟨j1.2.2.2.2.2.1.2, TXN_R j13 (by omega) (by omega) j4 j3 j11⟩⟩
      · dsimp only
        unfold lbX6_readInto_58
        rw [if_neg c24, if_pos ((cs_is (x := 53) j1 (by omega)).mpr e53)]
      · unfold lbX12_readText_43
        rw [if_pos ((tm_end j7 j8).mpr e53)]
        rfl
    · have him2 := tkc_lt j1.1 him e53
      obtain ⟨r, hr⟩ := tz_cl_tot (v := tk_v b n) (N := N) (B := B) (p := p) (tkc_m j1.1) hm him e53
      have C := q_clauseC htx j1 j2 e53 j3 j4 j5 hr
      have M := q_clauseM j7 j8 j9 j10 e53 j11 j4 j12 j6 hr
      have sc : ∀ μ1, fX6_readClause (343 + 7 * T) μc = some μ1 → lbX6_readInto_58 (343 + 7 * T) a1 (nI N) μc = some (.inl (nI (N + 1), μ1)) := fun μ1 h1 => by
        unfold lbX6_readInto_58
        rw [if_neg c24, if_neg (fun z => e53 ((cs_is (x := 53) j1 (by omega)).mp z)), h1, Option.bind_some, add_l 1]
      cases r with
      | inl e =>
        obtain ⟨μ1, c1, c2, c3⟩ := C
        obtain ⟨m0, μ2, m1, m2, m3⟩ := M
        obtain ⟨fc, rfl⟩ : ∃ f, fc = f + 1 := ⟨fc - 1, by omega⟩
        have e7 := c3.2.2.2.1
        refine ⟨μ1, μ2, e.1, ?_, lp_e ?_, c2, m3, e7, c3.2.1, fun _ => ?_, fun z => absurd z m0⟩
        · rw [lp_l (sc μ1 c1)]
          refine lp_e ?_
          dsimp only
          unfold lbX6_readInto_58
          rw [c3.1]
          split
          · rfl
          · rw [if_pos rfl]
        · unfold lbX12_readText_43
          rw [if_neg (fun z => e53 ((tm_end j7 j8).mp z)), m1, Option.bind_some]
          dsimp only
          rw [if_neg (fun z => m0 ((eq_l (n := 0) (by omega) (by omega)).mp z))]
        · rw [c3.2.2.2.2.1, m2.1]
      | inr a =>
        have hC := C
        obtain ⟨μ1, p', c1, c2, c3⟩ := C
        obtain ⟨μ2, m1, m2⟩ := M
        obtain ⟨B', p'', out', hJ', hlt⟩ := TJ_ext hT hJ hr (by rw [c1] at hC; exact hC) m2
        obtain ⟨μc', μm', e, g1, g2, g3, g4, g5⟩ := ih a.1 (N + 1) B' p'' out' μ1 μ2 fc fm (by omega) hJ' (by omega) (by omega)
        refine ⟨μc', μm', e, ?_, ?_, c2.tr g3, m2.2.1.tr g4, g5⟩
        · rw [lp_l (sc μ1 c1)]
          exact g1
        · rw [lp_l (s' := μ2) (by
            unfold lbX12_readText_43
            rw [if_neg (fun z => e53 ((tm_end j7 j8).mp z)), m1, Option.bind_some]
            dsimp only
            rw [if_pos rfl])]
          exact g2
/-- the class begins a text -/
theorem q_intoC {μ : PM} (htx : 343 ≤ 343 + 7 * T ∧ 343 + 7 * T ≤ 364) (hb : ∀ k, k < 300 → μ.1 371 k = nI (b k) ∧ b k < 256) (hn : n ≤ 300) : ∃ μ0 m, fX6_readInto (343 + 7 * T) μ (nI n) = ((lp (fun s => lbX6_readInto_58 (343 + 7 * T) (nI n) s.1 s.2) go_fuel (0, μ0)).bind fun ρ8 => some ρ8) ∧ ((∀ c, c < 343 + 7 * T ∨ 343 + 7 * T + 6 < c → c < 372 ∨ 375 < c → μ0.1 c = μ.1 c) ∧ μ0.2 = μ.2) ∧ CS (343 + 7 * T) μ0 b n m 0 0 ∧ μ0.1 (343 + 7 * T) 6 = nI 0 ∧ ∀ s, s < 3 → μ0.1 (343 + 7 * T + 4) s = -1 := by
  obtain ⟨μ1, f1, f2, f3, f4⟩ := q_fill (μ := pm_wi (pm_wi μ (343 + 7 * T) 6 0) (343 + 7 * T) 7 0) (c := 343 + 7 * T + 4) (n := 3) (v := -1) (by omega)
  have g1 : ∀ c, c ≠ 343 + 7 * T → c ≠ 343 + 7 * T + 4 → μ1.1 c = μ.1 c := fun c k1 k2 => by rw [f3 c k2, wi_c k1, wi_c k1]
  have hb3 : ∀ k, k < 300 → (pm_wi (pm_wi μ1 372 8 0) 372 9 (-1)).1 371 k = nI (b k) ∧ b k < 256 := fun k hk => by
    rw [wi_c (by decide), wi_c (by decide), g1 371 (by omega) (by omega)]
    exact hb k hk
  obtain ⟨μ4, m, s1, s2, s3⟩ := q_split hb3 hn
  have jm : jmin (nI n) (jmin 300 300) = nI n := by
    rw [show jmin 300 300 = nI 300 from rfl, jmin_n (by omega) (by omega), Nat.min_eq_left hn]
  unfold fX6_readInto fX8_empty
  simp only [go_let]
  rw [f1, Option.bind_some, Option.bind_some, jm, s1, Option.bind_some]
  have h4 : ∀ c, c ≠ 373 → c ≠ 374 → c ≠ 375 → c ≠ 372 → c ≠ 343 + 7 * T → c ≠ 343 + 7 * T + 4 → μ4.1 c = μ.1 c := fun c k1 k2 k3 k4 k5 k6 => by rw [s3.1 c k1 k2 k3, wi_c k4, wi_c k4, g1 c k5 k6]
  refine ⟨_, m, rfl, ⟨fun c k1 k2 => ?_, ?_⟩, ⟨?_, Nat.zero_le _, Nat.zero_le _, ?_, ?_, ⟨?_, ?_⟩, ?_⟩, ?_, fun s hs => ?_⟩
  · rw [wi_c (by omega), wi_c (by omega)]
    exact h4 c (by omega) (by omega) (by omega) (by omega) (by omega) (by omega)
  · rw [wi_2, wi_2, s3.2, wi_2, wi_2, f4, wi_2, wi_2]
  · obtain ⟨k1, k2, k3, k4, k5⟩ := s2
    refine ⟨k1, k2, k3, fun j hj => ?_, fun j hj ht => ?_⟩
    · rw [wi_c (by decide), wi_c (by decide), wi_c (by decide), wi_c (by decide)]
      exact k4 j hj
    · rw [wi_c (by decide), wi_c (by decide)]
      exact k5 j hj ht
  · rw [wi_i (by decide), wi_e]
    rfl
  · rw [wi_e, wi_c (by decide)]
    exact (s2.2.2.2.1 0 (Nat.zero_le _)).1
  · rw [wi_i (by decide), wi_i (by decide), s3.1 372 (by decide) (by decide) (by decide), wi_i (by decide), wi_e]
  · rw [wi_i (by decide), wi_i (by decide), s3.1 372 (by decide) (by decide) (by decide), wi_e]
  · rw [wi_c (by omega), wi_c (by omega), s3.1 _ (by omega) (by omega) (by omega), wi_c (by omega), wi_c (by omega), f3 _ (by omega), wi_e]
    rfl
  · rw [wi_c (by omega), wi_c (by omega), s3.1 _ (by omega) (by omega) (by omega), wi_c (by omega), wi_c (by omega), f3 _ (by omega), wi_i (by decide), wi_e]
    rfl
  · rw [wi_c (by omega), wi_c (by omega), s3.1 _ (by omega) (by omega) (by omega), wi_c (by omega), wi_c (by omega)]
    exact f2 s hs
/-- the reference begins a text -/
theorem q_intoM {μ : PM} (hT : T < 4) (h2 : μ.1 402 2 = nI T) (h : TPM μ b n) : ∃ μ0, fX12_readText μ = ((lp (fun s => lbX12_readText_43 s) go_fuel μ0).bind fun ρ9 => some ρ9) ∧ ((∀ c, c ≠ 401 → c ≠ 404 → μ0.1 c = μ.1 c) ∧ (∀ j, j ≤ 6 ∨ 20 ≤ j → μ0.1 401 j = μ.1 401 j) ∧ ∀ k, k ≠ 681 * T → μ0.1 404 k = μ.1 404 k) ∧ TPM μ0 b n ∧ TM μ0 b n (tk_pos b n 0) ∧ OUTM μ0 T [] ∧ μ0.1 404 (681 * T) = nI 0 ∧ μ0.1 401 19 = nI 0 := by
  unfold fX12_readText
  simp only [go_let]
  rw [h2, show (681 : Int32) * nI T = nI (681 * T) from l_mul 681 T, wi_e, chk_n (show 681 * T < 2724 by omega) (by omega), cl_n (show 681 * T < 2147483648 by omega)]
  have e401 : ∀ j, j ≠ 7 → j ≠ 12 → j ≠ 13 → j ≠ 19 → (pm_wi (pm_wi (pm_wi (pm_wi (pm_wi μ 401 12 (nI (681 * T))) 404 (681 * T) 0) 401 13 0) 401 19 0) 401 7 0).1 401 j = μ.1 401 j := fun j k1 k2 k3 k4 => by rw [wi_i k1, wi_i k4, wi_i k3, wi_c (by decide), wi_i k2]
  have ec : ∀ c, c ≠ 401 → c ≠ 404 → (pm_wi (pm_wi (pm_wi (pm_wi (pm_wi μ 401 12 (nI (681 * T))) 404 (681 * T) 0) 401 13 0) 401 19 0) 401 7 0).1 c = μ.1 c := fun c k1 k2 => by rw [wi_c k1, wi_c k1, wi_c k1, wi_c k2, wi_c k1]
  have e4 : ∀ k, k ≠ 681 * T → (pm_wi (pm_wi (pm_wi (pm_wi (pm_wi μ 401 12 (nI (681 * T))) 404 (681 * T) 0) 401 13 0) 401 19 0) 401 7 0).1 404 k = μ.1 404 k := fun k hk => by rw [wi_c (by decide), wi_c (by decide), wi_c (by decide), wi_i hk, wi_c (by decide)]
  have e40 : (pm_wi (pm_wi (pm_wi (pm_wi (pm_wi μ 401 12 (nI (681 * T))) 404 (681 * T) 0) 401 13 0) 401 19 0) 401 7 0).1 404 (681 * T) = 0 := by rw [wi_c (by decide), wi_c (by decide), wi_c (by decide), wi_e]
  have e12 : (pm_wi (pm_wi (pm_wi (pm_wi (pm_wi μ 401 12 (nI (681 * T))) 404 (681 * T) 0) 401 13 0) 401 19 0) 401 7 0).1 401 12 = nI (681 * T) := by rw [wi_i (by decide), wi_i (by decide), wi_i (by decide), wi_c (by decide), wi_e]
  have e13 : (pm_wi (pm_wi (pm_wi (pm_wi (pm_wi μ 401 12 (nI (681 * T))) 404 (681 * T) 0) 401 13 0) 401 19 0) 401 7 0).1 401 13 = 0 := by rw [wi_i (by decide), wi_i (by decide), wi_e]
  have e19 : (pm_wi (pm_wi (pm_wi (pm_wi (pm_wi μ 401 12 (nI (681 * T))) 404 (681 * T) 0) 401 13 0) 401 19 0) 401 7 0).1 401 19 = 0 := by rw [wi_i (by decide), wi_e]
  have e7 : (pm_wi (pm_wi (pm_wi (pm_wi (pm_wi μ 401 12 (nI (681 * T))) 404 (681 * T) 0) 401 13 0) 401 19 0) 401 7 0).1 401 7 = nI 0 := wi_e
  generalize pm_wi (pm_wi (pm_wi (pm_wi (pm_wi μ 401 12 (nI (681 * T))) 404 (681 * T) 0) 401 13 0) 401 19 0) 401 7 0 = μ6 at e401 ec e4 e40 e12 e13 e19 e7 ⊢
  have T6 : TPM μ6 b n := ⟨(e401 4 (by decide) (by decide) (by decide) (by decide)).trans h.1, h.2.1, fun k hk => by rw [ec 405 (by decide) (by decide)]; exact h.2.2 k hk⟩
  obtain ⟨μ7, m1, m2, m3⟩ := nt_q T6 e7 (Nat.zero_le _)
  rw [m1, Option.bind_some]
  refine ⟨μ7, rfl, ⟨fun c k1 k2 => (m2.1 c k1).trans (ec c k1 k2), fun j hj => ?_, fun k hk => ?_⟩, T6.nf m2, m3, ⟨?_, hT, Nat.zero_le _, ?_, fun j hj => absurd hj (Nat.not_lt_zero j)⟩, ?_, ?_⟩
  · exact (m2.2 j (by omega) (by omega) (by omega) (by omega)).trans (e401 j (by omega) (by omega) (by omega) (by omega))
  · rw [m2.1 404 (by decide)]
    exact e4 k hk
  · exact (m2.2 12 (by omega) (by omega) (by omega) (by omega)).trans e12
  · exact (m2.2 13 (by omega) (by omega) (by omega) (by omega)).trans e13
  · rw [m2.1 404 (by decide)]
    exact e40
  · exact (m2.2 19 (by omega) (by omega) (by omega) (by omega)).trans e19
end TXL
theorem TXR_eq2 {μc μm μc' μm' : PM} {t : Nat} (h : TXR μc μm t) (h1 : ∀ c, 343 + 7 * t ≤ c → c ≤ 349 + 7 * t → μc'.1 c = μc.1 c) (h2 : ∀ k, 681 * t ≤ k → k < 681 * t + 681 → μm'.1 404 k = μm.1 404 k) : TXR μc' μm' t := by
  obtain ⟨N, hN, n1, n2, n3, n4⟩ := h
  refine ⟨N, hN, by rw [h1 _ (by omega) (by omega)]; exact n1, by rw [h2 _ (by omega) (by omega)]; exact n2, fun k hk => ?_, fun s hs => ?_⟩
  · obtain ⟨s, k1, k2, k3, k4⟩ := n3 k hk
    rw [h1 _ (by omega) (by omega), h1 (345 + 7 * t) (by omega) (by omega), h1 (346 + 7 * t) (by omega) (by omega), h2 (681 * t + 1 + 3 * k) (by omega) (by omega), h2 (681 * t + 2 + 3 * k) (by omega) (by omega), h2 (681 * t + 3 + 3 * k) (by omega) (by omega)]
    exact ⟨s, k1, k2, k3, k4⟩
  · rw [h1 (347 + 7 * t) (by omega) (by omega)]
    rcases n4 s hs with ⟨a1, a2⟩ | ⟨k, a1, a2, a3, p, f, c, m, l1, l2, l3, l4, l5, l6, l7, l8, l9⟩
    · exact Or.inl ⟨a1, fun k hk => by rw [h2 _ (by omega) (by omega)]; exact a2 k hk⟩
    · refine Or.inr ⟨k, a1, by rw [h2 _ (by omega) (by omega)]; exact a2, fun k' hk' => by rw [h2 _ (by omega) (by omega)]; exact a3 k' hk', p, f, c, m, l1, l2, by rw [h1 _ (by omega) (by omega)]; exact l3, fun j hj => ?_, by rw [h1 _ (by omega) (by omega)]; exact l5, by rw [h2 _ (by omega) (by omega)]; exact l6, by rw [h2 _ (by omega) (by omega)]; exact l7, fun j hj => ?_, l9⟩
      · rw [h1 (348 + 7 * t) (by omega) (by omega), h1 (349 + 7 * t) (by omega) (by omega)]
        exact l4 j hj
      · rw [h2 _ (by omega) (by omega), h2 _ (by omega) (by omega)]
        exact l8 j hj
theorem OA_2 {a : Nat → Int32} {v : Int32} (h : OA a) (hv : (a 2).toInt ≤ v.toInt ∧ v.toInt ≤ 4) : OA (upd a 2 v) := by
  obtain ⟨h1, h2, h3, h4, h5, h6, h7, h8⟩ := h
  have u : ∀ j, j ≠ 2 → upd a 2 v j = a j := fun j hj => upd_n hj
  have h2t := ob_texts h1
  refine ⟨OB_set h1 ?_, WO_eq h2 (fun j hj => vz_cur_upd (fun j hj => ?_) j (by omega)), fun n hn => ?_, ?_, fun f hf => ?_, fun i hi => ?_, fun i hi => ?_, fun i hi => ?_⟩
  · show 0 ≤ _ ∧ _ ≤ 4
    omega
  · split
    · omega
    · split <;> omega
  · rw [u 0 (by omega)] at hn
    have := ob_names h1
    rw [u _ (by omega)]
    exact h3 n hn
  · rw [upd_e, u 3 (by omega)]
    omega
  · rw [u _ (by omega), u 0 (by omega), u 1 (by omega)]
    refine ⟨(h5 f hf).1, (h5 f hf).2.1, fun g hg => ?_⟩
    rw [u _ (by omega)]
    exact (h5 f hf).2.2 g hg
  · rw [u 6 (by omega)] at hi
    have := ob_saidCount h1
    rw [u _ (by omega), u 0 (by omega)]
    exact h6 i hi
  · rw [u 4 (by omega)] at hi
    have := ob_count h1
    rw [u 0 (by omega), u 1 (by omega), u (142 + 54 * i) (by omega), u (142 + 54 * i + 1) (by omega)]
    obtain ⟨w1, w2⟩ := h7 i hi
    refine ⟨WO_eq w1 (fun j hj => ?_), w2⟩
    exact u _ (by omega)
  · rw [u (117 + i) (by omega)]
    exact h8 i hi
