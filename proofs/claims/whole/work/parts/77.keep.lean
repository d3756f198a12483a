/-! ===== rows that are copied; a STEP is kept ===== -/
theorem cp_in {μ : PM} {a b sp dp n j : Nat} (h1 : dp ≤ j) (h2 : j < dp + n) : (pm_cp μ a b sp dp n).1 b j = μ.1 a (sp + (j - dp)) := by rw [cp_r, if_pos ⟨rfl, h1, h2⟩]
theorem cp_out {μ : PM} {a b sp dp n j : Nat} (h : j < dp ∨ dp + n ≤ j) : (pm_cp μ a b sp dp n).1 b j = μ.1 b j := by rw [cp_r, if_neg (by omega)]
theorem cp_0 (μ : PM) (a b sp dp : Nat) : pm_cp μ a b sp dp 0 = μ := by
  refine Prod.ext (funext fun c => funext fun j => ?_) rfl
  rw [cp_r, if_neg (by omega)]
theorem cp_suc {μ : PM} {a b sp dp n : Nat} (h : a ≠ b ∨ dp ≤ sp ∨ sp + n < dp) : pm_wi (pm_cp μ a b sp dp n) b (dp + n) ((pm_cp μ a b sp dp n).1 a (sp + n)) = pm_cp μ a b sp dp (n + 1) := by
  refine Prod.ext (funext fun c => funext fun j => ?_) rfl
  have e : (pm_cp μ a b sp dp n).1 a (sp + n) = μ.1 a (sp + n) := by rw [cp_r, if_neg (by omega)]
  rw [e, wi_r, cp_r, cp_r]
  by_cases hc : c = b
  · by_cases h1 : j = dp + n
    · subst h1
      rw [if_pos ⟨hc, rfl⟩, if_pos ⟨hc, by omega, by omega⟩, show dp + n - dp = n by omega]
    · rw [if_neg (fun q => h1 q.2)]
      by_cases h2 : dp ≤ j ∧ j < dp + n
      · rw [if_pos ⟨hc, h2.1, h2.2⟩, if_pos ⟨hc, h2.1, by omega⟩]
      · rw [if_neg (fun q => h2 q.2), if_neg (fun q => h2 ⟨q.2.1, by omega⟩)]
  · rw [if_neg (fun q => hc q.1), if_neg (fun q => hc q.1), if_neg (fun q => hc q.1)]
/-- a loop that copies -/
theorem lp_cp {ρ : Type} {f : Int32 × PM → Option ((Int32 × PM) ⊕ ρ)} {a b s d n : Nat} {g : PM → ρ} {μ : PM} (hs : ∀ i μ', i < n → f (nI i, μ') = some (.inl (nI (i + 1), pm_wi μ' b (d + i) (μ'.1 a (s + i))))) (he : ∀ μ', f (nI n, μ') = some (.inr (g μ'))) (hov : a ≠ b ∨ d ≤ s ∨ s + n ≤ d) (hn : n < go_fuel) : lp f go_fuel (0, μ) = some (g (pm_cp μ a b s d n)) := by
  have := lp_cnt (f := f) (fun i => (nI i, pm_cp μ a b s d i)) 0 n (g (pm_cp μ a b s d n)) (fun i _ hi => by rw [hs i _ hi, cp_suc (by omega)]) (he _) go_fuel 0 (by omega) (by omega) (by omega)
  have this' : lp f go_fuel (nI 0, pm_cp μ a b s d 0) = some (g (pm_cp μ a b s d n)) := this
  rw [cp_0] at this'
  exact this'
/-- the reference keeps a STEP: what it comes to -/
def kp_m (μ : PM) (C : Nat) : PM := pm_wi (pm_cp (pm_cp (pm_wi (pm_wi μ 402 (142 + 54 * C) (μ.1 402 0)) 402 (142 + 54 * C + 1) (μ.1 402 1)) 402 402 7 (142 + 54 * C + 2) 22) 402 402 1762 (142 + 54 * C + 24) 30) 402 4 (nI (C + 1))
theorem kp_56 {μ : PM} {C : Nat} (hC : μ.1 402 4 = nI C) (h30 : C < 30) : jjX12_keep_56 μ = some (kp_m μ C) := by
  unfold jjX12_keep_56 kp_m
  rw [hC]
  simp (disch := omega) only [go_let, l_mul 54, l_add 142, add_l 1, chk_n, cl_n, wi_i]
  rw [lp_cp (a := 402) (b := 402) (s := 7) (d := 142 + 54 * C + 2) (n := 22) (g := fun μ' => .inl μ') (fun i μ' hi => ?_) (fun μ' => ?_) (by omega) (by decide)]
  · dsimp only [Option.bind_some, go_cs]
    rw [lp_cp (a := 402) (b := 402) (s := 1762) (d := 142 + 54 * C + 24) (n := 30) (g := fun μ' => .inl μ') (fun i μ' hi => ?_) (fun μ' => ?_) (by omega) (by decide)]
    · dsimp only [Option.bind_some, go_cs]
      simp (disch := omega) only [cp_out, wi_i, hC, add_l 1]
    · dsimp only
      unfold lbX12_keep_131
      rw [if_neg (by rw [l_le (n := 30) (by omega) (by omega)]; omega)]
      simp (disch := omega) only [go_let, l_add 1762, add_l 24, nI_add, chk_n, cl_n, add_l 1]
    · dsimp only
      unfold lbX12_keep_131
      rw [if_pos (by decide)]
  · dsimp only
    unfold lbX12_keep_98
    rw [if_neg (by rw [l_le (n := 22) (by omega) (by omega)]; omega)]
    simp (disch := omega) only [go_let, l_add 7, add_l 2, nI_add, chk_n, cl_n, add_l 1]
  · dsimp only
    unfold lbX12_keep_98
    rw [if_pos (by decide)]
theorem kp_M {μ : PM} {N : Nat} (hN : μ.1 402 4 = nI N) (h30 : N ≤ 30) : fX12_keep μ = some (if N = 30 then kp_m (pm_wi (pm_cp μ 402 402 196 142 1566) 402 4 (nI 29)) 29 else kp_m μ N) := by
  unfold fX12_keep
  rw [hN]
  by_cases h : N = 30
  · subst h
    rw [if_pos (by decide), if_pos rfl]
    rw [lp_cp (a := 402) (b := 402) (s := 196) (d := 142) (n := 1566) (g := fun μ' => .inl μ') (fun i μ' hi => ?_) (fun μ' => ?_) (by omega) (by decide)]
    · dsimp only [Option.bind_some, go_cs, go_let]
      simp (disch := omega) only [cp_out, hN]
      exact kp_56 (by rw [wi_e]; rfl) (by omega)
    · dsimp only
      unfold lbX12_keep_13
      rw [if_neg (by rw [l_le (n := 1566) (by omega) (by omega)]; omega)]
      simp (disch := omega) only [go_let, l_add 196, l_add 142, chk_n, cl_n, add_l 1]
    · dsimp only
      unfold lbX12_keep_13
      rw [if_pos (by decide)]
  · rw [if_neg (by rw [eq_l (n := 30) (by omega) (by omega)]; exact h), if_neg h]
    exact kp_56 hN (by omega)
/-- what the row is behind it -/
theorem kp_row {μ : PM} {C : Nat} (h30 : C < 30) : (∀ k, k < 142 → k ≠ 4 → (kp_m μ C).1 402 k = μ.1 402 k) ∧ (kp_m μ C).1 402 4 = nI (C + 1) ∧ (∀ k, 1762 ≤ k → (kp_m μ C).1 402 k = μ.1 402 k) ∧ (∀ i j, i < C → j < 54 → (kp_m μ C).1 402 (142 + 54 * i + j) = μ.1 402 (142 + 54 * i + j)) ∧ (∀ j, j < 54 → (kp_m μ C).1 402 (142 + 54 * C + j) = vz_cur (μ.1 402) j) ∧ EM μ (kp_m μ C) := by
  unfold kp_m
  refine ⟨fun k h1 h2 => ?_, ?_, fun k h1 => ?_, fun i j h1 h2 => ?_, fun j h1 => ?_, ?_⟩
  · simp (disch := omega) only [wi_i, cp_out]
  · rw [wi_e]
  · simp (disch := omega) only [wi_i, cp_out]
  · simp (disch := omega) only [wi_i, cp_out]
  · unfold vz_cur
    rw [wi_i (by omega)]
    by_cases j0 : j = 0
    · subst j0
      rw [cp_out (by omega), cp_out (by omega), wi_i (by omega), if_pos (by omega)]
      exact wi_e
    by_cases j1 : j = 1
    · subst j1
      rw [cp_out (by omega), cp_out (by omega), if_pos (by omega), wi_e]
    rw [if_neg (by omega)]
    by_cases j2 : j < 24
    · rw [cp_out (by omega), cp_in (by omega) (by omega), if_pos j2, wi_i (by omega), wi_i (by omega), show 7 + (142 + 54 * C + j - (142 + 54 * C + 2)) = 5 + j by omega]
    · rw [cp_in (by omega) (by omega), if_neg j2, cp_out (by omega), wi_i (by omega), wi_i (by omega), show 1762 + (142 + 54 * C + j - (142 + 54 * C + 24)) = 1738 + j by omega]
  · have cpE : ∀ {μ μ' : PM} {s d n : Nat}, EM μ μ' → EM μ (pm_cp μ' 402 402 s d n) := fun h => h.tr ⟨⟨by rw [cp_c (by omega)], by rw [cp_c (by omega)], by rw [cp_c (by omega)], by rw [cp_c (by omega)]⟩, cp_c (by omega), cp_c (by omega), cp_c (by omega), fun c hc => cp_c (by omega)⟩
    exact (cpE (cpE (((EM.rfl' μ).wi (by omega)).wi (by omega)))).wi (by omega)
theorem EM.cp {μ μ' : PM} {s d n : Nat} (h : EM μ μ') : EM μ (pm_cp μ' 402 402 s d n) := h.tr ⟨⟨by rw [cp_c (by omega)], by rw [cp_c (by omega)], by rw [cp_c (by omega)], by rw [cp_c (by omega)]⟩, cp_c (by omega), cp_c (by omega), cp_c (by omega), fun c hc => cp_c (by omega)⟩
/-! a Water becomes another one -/
theorem bc_c {μ : PM} {o p c : Nat} (h : c < o ∨ o + 4 < c) : (fX10_become μ o p).1 c = μ.1 c := by
  unfold fX10_become
  simp only [go_let]
  simp (disch := omega) only [wi_c, cp_c]
theorem bc_2' (μ : PM) (o p : Nat) : (fX10_become μ o p).2 = μ.2 := rfl
theorem bc_W {μ : PM} {o p : Nat} {r : Nat → Int32} (h : WR μ p r) (hd : p + 4 < o ∨ o + 4 < p) : WR (fX10_become μ o p) o r := by
  have f : ∀ i, 4 ≤ i → i ≤ 10 → (fX10_become μ o p).1 o i = μ.1 p i := fun i h4 h10 => by
    have : i = 4 ∨ i = 5 ∨ i = 6 ∨ i = 7 ∨ i = 8 ∨ i = 9 ∨ i = 10 := by omega
    unfold fX10_become
    simp only [go_let]
    rcases this with rfl | rfl | rfl | rfl | rfl | rfl | rfl <;> simp (disch := omega) only [wi_i, wi_e, wi_c, cp_c]
  have a1 : ∀ n, n < 6 → (fX10_become μ o p).1 (o + 1) n = μ.1 (p + 1) n := fun n hn => by
    unfold fX10_become
    simp only [go_let]
    simp (disch := omega) only [wi_c, cp_c, cp_in, Nat.zero_add, Nat.sub_zero]
  have a2 : ∀ n, n < 6 → (fX10_become μ o p).1 (o + 2) n = μ.1 (p + 2) n := fun n hn => by
    unfold fX10_become
    simp only [go_let]
    simp (disch := omega) only [wi_c, cp_c, cp_in, Nat.zero_add, Nat.sub_zero]
  have a3 : ∀ n, n < 5 → (fX10_become μ o p).1 (o + 3) n = μ.1 (p + 3) n := fun n hn => by
    unfold fX10_become
    simp only [go_let]
    simp (disch := omega) only [wi_c, cp_c, cp_in, Nat.zero_add, Nat.sub_zero]
  have a4 : ∀ n, n < 30 → (fX10_become μ o p).1 (o + 4) n = μ.1 (p + 4) n := fun n hn => by
    unfold fX10_become
    simp only [go_let]
    simp (disch := omega) only [wi_c, cp_c, cp_in, Nat.zero_add, Nat.sub_zero]
  have hl : ∀ j, j < 24 → ((vz_wl j).1 = 0 ∧ 4 ≤ (vz_wl j).2 ∧ (vz_wl j).2 ≤ 10) ∨ ((vz_wl j).1 = 1 ∧ (vz_wl j).2 < 6) ∨ ((vz_wl j).1 = 2 ∧ (vz_wl j).2 < 6) ∨ ((vz_wl j).1 = 3 ∧ (vz_wl j).2 < 5) := by decide
  refine ⟨fun j hj => ?_, fun k hk => ?_⟩
  · rw [← h.1 j hj]
    rcases hl j hj with ⟨e, e2, e3⟩ | ⟨e, e2⟩ | ⟨e, e2⟩ | ⟨e, e2⟩
    · rw [e]; exact f _ e2 e3
    · rw [e]; exact a1 _ e2
    · rw [e]; exact a2 _ e2
    · rw [e]; exact a3 _ e2
  · rw [a4 k hk]
    exact h.2 k hk
/-- the current Water beside the row as it stands -/
theorem vz_curW {μ : PM} {q : Nat} {a : Nat → Int32} (hF : VF μ q a) (hB : VB μ q a) : WR μ (q + 11) (vz_cur a) := by
  have hl : ∀ j, j < 24 → vz_loc (if j < 2 then j else 5 + j) = (11 + (vz_wl j).1, (vz_wl j).2) := by decide +kernel
  refine ⟨fun j hj => ?_, fun k hk => ?_⟩
  · rw [vz_cur_lo hj]
    have := hF (if j < 2 then j else 5 + j) (by split <;> omega)
    rw [hl j hj] at this
    rw [← this, Nat.add_assoc]
  · have := hB k hk
    rw [show q + 11 + 4 = q + 15 by omega]
    unfold vz_cur
    rw [if_neg (by omega), if_neg (by omega), show 1738 + (24 + k) = 1762 + k by omega]
    exact this
/-- where a STEP is kept -/
theorem so_e {μ : PM} {o g i : Nat} (h1 : μ.1 o 1 = nI g) (hg : g < 30) (hi : i ≤ 30) : fX7_slotOf μ o (nI i) = some (some (o + 2 + 5 * ((g + i) % 30))) := by
  have hm := Nat.mod_lt (g + i) (show 0 < 30 by decide)
  unfold fX7_slotOf
  rw [h1, nI_add, rem_l (n := 30) (by omega) (by omega)]
  simp only [go_let]
  rw [if_neg (nI_nlt0 (by omega)), chk_n (by omega) (by omega), cl_n (by omega)]
/-- a STEP is kept by both -/
theorem kp_both {μc μm : PM} (h : VV μc 1 (μm.1 402)) : ∃ μc' μm', fX7_keep μc 17 12 = some μc' ∧ fX12_keep μm = some μm' ∧ VV μc' 1 (μm'.1 402) ∧ EC μc μc' ∧ EM μm μm' ∧ ∀ k, k < 142 → k ≠ 4 → μm'.1 402 k = μm.1 402 k := by
  obtain ⟨hF, hB, ⟨f, hf, hf1, hS⟩, hO⟩ := h
  have hb := ob_count hO.1
  obtain ⟨N, hN, hN6, hN2⟩ := nz_of (v := μm.1 402 4) (k := 31) hb.1 (by omega)
  have hNc : μc.1 17 2 = nI N := by rw [v1_count hF]; exact hN
  have hf1 : μc.1 17 1 = nI f := hf1
  rw [hN, cl_n (by omega)] at hS
  -- what is left of the rows: C of them, from s on
  have main : ∀ (C s g : Nat) (μ1 : PM) (ν1 : PM), C < 30 → g < 30 → C + s = N → μ1.1 17 1 = nI g → μ1.1 17 2 = nI C → (∀ c, c ≠ 17 → μ1.1 c = μc.1 c) → (∀ i, i ≠ 1 → i ≠ 2 → μ1.1 17 i = μc.1 17 i) → μ1.2 = μc.2 → (∀ i, i < C → (g + i) % 30 = (f + (i + s)) % 30) →
      ν1.1 402 4 = nI C → (∀ k, k < 142 → k ≠ 4 → ν1.1 402 k = μm.1 402 k) → (∀ k, 1762 ≤ k → ν1.1 402 k = μm.1 402 k) → (∀ i j, i < C → j < 54 → ν1.1 402 (142 + 54 * i + j) = μm.1 402 (142 + 54 * (i + s) + j)) → EM μm ν1 →
      ∃ μc', jjX7_keep_28 μ1 17 12 = some μc' ∧ VV μc' 1 ((kp_m ν1 C).1 402) ∧ EC μc μc' ∧ EM μm (kp_m ν1 C) ∧ ∀ k, k < 142 → k ≠ 4 → (kp_m ν1 C).1 402 k = μm.1 402 k := by
    intro C s g μ1 ν1 hC hg hCs e1 e2 e3 e3' e4 e5 m1 m2 m3 m4 m5
    obtain ⟨r1, r2, r3, r4, r5, r6⟩ := kp_row (μ := ν1) hC
    have hg30 := Nat.mod_lt (g + C) (show 0 < 30 by decide)
    have hvc : ∀ j, j < 54 → vz_cur (ν1.1 402) j = vz_cur (μm.1 402) j := fun j hj => by
      unfold vz_cur
      by_cases j2 : j < 2
      · rw [if_pos j2, if_pos j2, m2 j (by omega) (by omega)]
      · rw [if_neg j2, if_neg j2]
        by_cases j24 : j < 24
        · rw [if_pos j24, if_pos j24, m2 _ (by omega) (by omega)]
        · rw [if_neg j24, if_neg j24, m3 _ (by omega)]
    refine ⟨pm_wi (fX10_become μ1 (17 + 2 + 5 * ((g + C) % 30)) 12) 17 2 (nI (C + 1)), ?_, ⟨?_, ?_, ?_, ?_⟩, ?_, m5.tr r6, fun k h1 h2 => (r1 k h1 h2).trans (m2 k h1 h2)⟩
    · unfold jjX7_keep_28 jjX7_keep_46
      rw [e2, so_e e1 hg (by omega)]
      simp only [Option.bind_some, go_op, go_let]
      rw [bc_c (c := 17) (by omega), e2, add_l 1]
    · intro k hk
      have hl := vz_loc_le k hk
      rw [wi_r]
      by_cases k4 : k = 4
      · subst k4
        rw [if_pos ⟨rfl, rfl⟩, r2]
      · have hne : ¬ (1 + (vz_loc k).1 = 17 ∧ (vz_loc k).2 = 2) := fun q => k4 (vz_inj k hk 4 (by omega) (Prod.ext (by show _ = 16; omega) q.2))
        have h16 : (vz_loc k).1 ≠ 16 := fun q => hne ⟨by omega, hl.2.2.1 q⟩
        rw [if_neg hne, bc_c (by omega), e3 _ (by omega), r1 k hk k4, m2 k hk k4]
        exact hF k hk
    · intro k hk
      rw [wi_c (by omega), bc_c (by omega), e3 _ (by omega), r3 _ (by omega), m3 _ (by omega)]
      exact hB k hk
    · refine ⟨g, hg, ?_, fun i hi => ?_⟩
      · rw [wi_i (by omega), bc_c (by omega)]
        exact e1
      · rw [r2, cl_n (by omega)] at hi
        by_cases hiC : i = C
        · subst hiC
          have w1 : WR μ1 12 (vz_cur (μm.1 402)) := WR_eq (vz_curW hF hB) (fun c h1 h2 => e3 c (by omega)) (fun _ _ => rfl)
          have w2 := bc_W (o := 17 + 2 + 5 * ((g + i) % 30)) w1 (by omega)
          rw [show 1 + 18 + 5 * ((g + i) % 30) = 17 + 2 + 5 * ((g + i) % 30) by omega]
          exact WR_eq w2 (fun c h1 h2 => wi_c (by omega)) (fun j hj => (r5 j hj).trans (hvc j hj))
        · have hi2 : i < C := by omega
          have w := hS (i + s) (by omega)
          rw [← e5 i hi2] at w
          have hm1 := Nat.mod_lt (g + i) (show 0 < 30 by decide)
          have hne : (g + i) % 30 ≠ (g + C) % 30 := by omega
          exact WR_eq w (fun c h1 h2 => by rw [wi_c (by omega), bc_c (by omega), e3 c (by omega)]) (fun j hj => by rw [r4 i j hi2 hj, m4 i j hi2 hj])
    · obtain ⟨h1, h2, h3, h4, h5, h6, h7, h8⟩ := hO
      have e : ∀ k, k < 142 → k ≠ 4 → (kp_m ν1 C).1 402 k = μm.1 402 k := fun k h1 h2 => (r1 k h1 h2).trans (m2 k h1 h2)
      have hc : ∀ j, j < 24 → vz_cur ((kp_m ν1 C).1 402) j = vz_cur (μm.1 402) j := fun j hj => by
        rw [vz_cur_lo hj, vz_cur_lo hj]
        split
        · exact e _ (by omega) (by omega)
        · exact e _ (by omega) (by omega)
      have hnm := ob_names h1
      have hsc := ob_saidCount h1
      refine ⟨OB_eq h1 (fun k hk => ?_), WO_eq h2 hc, fun n hn => ?_, ?_, fun x hx => ?_, fun i hi => ?_, fun i hi => ?_, fun i hi => ?_⟩
      · by_cases k4 : k = 4
        · subst k4; right
          rw [r2, ti_n (by omega)]
          show 0 ≤ _ ∧ _ ≤ 30
          omega
        · left; exact e k hk k4
      · rw [e 0 (by omega) (by omega)] at hn
        rw [e _ (by omega) (by omega)]
        exact h3 n hn
      · rw [e 3 (by omega) (by omega), e 2 (by omega) (by omega)]
        exact h4
      · rw [e (112 + x) (by omega) (by omega), e 0 (by omega) (by omega), e 1 (by omega) (by omega)]
        refine ⟨(h5 x hx).1, (h5 x hx).2.1, fun y hy => ?_⟩
        rw [e _ (by omega) (by omega)]
        exact (h5 x hx).2.2 y hy
      · rw [e 6 (by omega) (by omega)] at hi
        rw [e _ (by omega) (by omega), e 0 (by omega) (by omega)]
        exact h6 i hi
      · rw [r2, ti_n (by omega)] at hi
        rw [e 0 (by omega) (by omega), e 1 (by omega) (by omega)]
        by_cases hiC : i = C
        · subst hiC
          have q0 := (r5 0 (by omega)).trans (hvc 0 (by omega))
          have q1 := (r5 1 (by omega)).trans (hvc 1 (by omega))
          rw [Nat.add_zero] at q0
          rw [q0, q1]
          exact ⟨WO_eq h2 (fun j hj => (r5 j (by omega)).trans (hvc j (by omega))), Int.le_refl _, Int.le_refl _⟩
        · have hi2 : i < C := by omega
          have w := h7 (i + s) (by omega)
          have q0 := (r4 i 0 hi2 (by omega)).trans (m4 i 0 hi2 (by omega))
          have q1 := (r4 i 1 hi2 (by omega)).trans (m4 i 1 hi2 (by omega))
          rw [Nat.add_zero, Nat.add_zero] at q0
          rw [q0, q1]
          exact ⟨WO_eq w.1 (fun j hj => (r4 i j hi2 (by omega)).trans (m4 i j hi2 (by omega))), w.2⟩
      · rw [e (117 + i) (by omega) (by omega)]
        exact h8 i hi
    · refine ⟨?_, fun c h1 h2 => ?_, fun c h1 h2 => ?_, fun c h1 => ?_, ?_⟩
      · rw [wi_c (by omega), bc_c (by omega), e3 0 (by omega)]
      · rw [wi_c (by omega), bc_c (by omega), e3 c (by omega)]
      · rw [wi_c (by omega), bc_c (by omega), e3 c (by omega)]
      · rw [wi_c (by omega), bc_c (by omega), e3 c (by omega)]
      · rw [wi_2, bc_2', e4]
  rw [kp_M hN (by omega)]
  unfold fX7_keep
  rw [hNc]
  by_cases h30 : N = 30
  · subst h30
    rw [if_neg (by decide), if_pos rfl, hf1, add_l 1, rem_l (n := 30) (by omega) (by omega)]
    simp only [go_let]
    have hm := Nat.mod_lt (f + 1) (show 0 < 30 by decide)
    obtain ⟨μc', k1, k2, k3, k4, k5⟩ := main 29 1 ((f + 1) % 30) (pm_wi (pm_wi μc 17 1 (nI ((f + 1) % 30))) 17 2 29) (pm_wi (pm_cp μm 402 402 196 142 1566) 402 4 (nI 29)) (by omega) hm rfl (by rw [wi_i (by omega), wi_e]) (by rw [wi_e]; rfl) (fun c hc => by rw [wi_c hc, wi_c hc]) (fun i h1 h2 => by rw [wi_i h2, wi_i h1]) rfl (fun i hi => by omega) (by rw [wi_e]) (fun k h1 h2 => by rw [wi_i h2, cp_out (by omega)]) (fun k h1 => by rw [wi_i (by omega), cp_out (by omega)]) (fun i j hi hj => by rw [wi_i (by omega), cp_in (by omega) (by omega), show 196 + (142 + 54 * i + j - 142) = 142 + 54 * (i + 1) + j by omega]) ((EM.rfl' μm).cp.wi (by omega))
    exact ⟨μc', _, k1, rfl, k2, k3, k4, k5⟩
  · rw [if_pos (by rw [lt_l (n := 30) (by omega) (by omega)]; omega), if_neg h30]
    obtain ⟨μc', k1, k2, k3, k4, k5⟩ := main N 0 f μc μm (by omega) hf rfl hf1 hNc (fun _ _ => rfl) (fun _ _ _ => rfl) rfl (fun _ _ => rfl) hN (fun _ _ _ => rfl) (fun _ _ => rfl) (fun _ _ _ _ => rfl) (EM.rfl' μm)
    exact ⟨μc', _, k1, rfl, k2, k3, k4, k5⟩
