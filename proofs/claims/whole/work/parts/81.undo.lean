/-! ===== a STEP is taken back ===== -/
/-- a Valley beside a row, the numbers of NAMES and FAMILIES aside -/
def VX (μ : PM) (a : Nat → Int32) : Prop := ∀ k, k < 142 → 2 ≤ k → μ.1 (1 + (vz_loc k).1) (vz_loc k).2 = a k
theorem VX_set {μ : PM} {a : Nat → Int32} (h : VX μ a) {k c i : Nat} (hk : k < 142) (hl : vz_loc k = (c, i)) (v : Int32) : VX (pm_wi μ (1 + c) i v) (upd a k v) := by
  intro j hj hj2
  rw [wi_r]
  unfold upd
  by_cases e : j = k
  · subst e
    rw [hl, if_pos ⟨rfl, rfl⟩, if_pos rfl]
  · rw [if_neg e, if_neg (fun hh => e (vz_inj j hj k hk (by rw [hl]; exact Prod.ext (by have := hh.1; dsimp only; omega) hh.2)))]
    exact h j hj hj2
/-- what stands now is in its bounds, sizes of the first n are no 0 -/
def UB (a : Nat → Int32) (n : Nat) : Prop := (∀ k, 7 ≤ k → k < 29 → vz_lo k ≤ (a k).toInt ∧ (a k).toInt ≤ vz_hi k) ∧ (∀ m, m < 6 → (a (12 + 2 * m)).toInt ≤ 10 ∨ 20 ≤ (a (12 + 2 * m)).toInt) ∧ ∀ m, m < n → m < 6 → 1 ≤ (a (13 + 2 * m)).toInt
theorem UB_set {a : Nat → Int32} {n k : Nat} {v : Int32} (h : UB a n) (hv : vz_lo k ≤ v.toInt ∧ v.toInt ≤ vz_hi k) (hp : ∀ m, m < 6 → k = 12 + 2 * m → v.toInt ≤ 10 ∨ 20 ≤ v.toInt) (hz : ∀ m, m < 6 → k = 13 + 2 * m → 1 ≤ v.toInt) : UB (upd a k v) n := by
  refine ⟨fun j h1 h2 => ?_, fun m hm => ?_, fun m hm hm6 => ?_⟩
  · by_cases e : j = k
    · subst e; rw [upd_e]; exact hv
    · rw [upd_n e]; exact h.1 j h1 h2
  · by_cases e : 12 + 2 * m = k
    · rw [e, upd_e]; exact hp m hm e.symm
    · rw [upd_n e]; exact h.2.1 m hm
  · by_cases e : 13 + 2 * m = k
    · rw [e, upd_e]; exact hz m hm6 e.symm
    · rw [upd_n e]; exact h.2.2 m hm hm6
theorem q_begin {μ : PM} {n : Nat} (hn : n < 6) (hs : vz_sd (μ.1 402 (30 + n))) : ∃ z, 1 ≤ z ∧ z ≤ 5 ∧ fX11_countSounds (μ.1 402 (30 + n)) = some (nI z) ∧ fX12_begin μ (nI n) = some (pm_wi (pm_wi μ 402 (12 + 2 * n) (-1)) 402 (13 + 2 * n) (nI z)) := by
  obtain ⟨z, h1, h2, s1, s2, s3, -⟩ := q_len hs
  refine ⟨z, h1, h2, s1, ?_⟩
  unfold fX12_begin fX12_put
  simp (disch := omega) only [l_add 30, l_mul 2, l_add 12, add_l 0, add_l 1, Nat.add_zero, go_let, cl_n, chk_n, Option.bind_some, wi_i]
  rw [s3, show 12 + 2 * n + 1 = 13 + 2 * n by omega]
  rfl
/-- NAMES that the STEP didn't know -/
theorem un_names {N : Nat} (hN6 : N ≤ 6) {x5 x1 : Int32} {q3 r : Nat} (hr : r ≤ N) {μc μm : PM} (h : VX μc (μm.1 402)) (hu : UB (μm.1 402) r) (hN : μm.1 402 0 = nI N) (hs : ∀ n, n < N → vz_sd (μm.1 402 (30 + n))) :
    ∃ μc' μm', lp (fun s : Int32 × PM => lbX9_takeBack_44 1 q3 (nI N) x5 s.1 s.2) go_fuel (nI r, μc) = some (.inl μc') ∧ lp (fun s : Int32 × PM => lbX12_undo_75 x1 s.1 s.2) go_fuel (nI r, μm) = some (.inl μm') ∧ VX μc' (μm'.1 402) ∧ UB (μm'.1 402) N ∧ (∀ k, (k < 12 ∨ 24 ≤ k) → μm'.1 402 k = μm.1 402 k) ∧ (∀ c, c ≠ 13 → c ≠ 14 → μc'.1 c = μc.1 c) ∧ μc'.2 = μc.2 ∧ EM μm μm' := by
  have step : ∀ (s t : Int32 × PM), (∃ n, r ≤ n ∧ n ≤ N ∧ s.1 = nI n ∧ t.1 = nI n ∧ VX s.2 (t.2.1 402) ∧ UB (t.2.1 402) n ∧ (∀ k, (k < 12 ∨ 24 ≤ k) → t.2.1 402 k = μm.1 402 k) ∧ (∀ c, c ≠ 13 → c ≠ 14 → s.2.1 c = μc.1 c) ∧ s.2.2 = μc.2 ∧ EM μm t.2) →
      (∃ s' t', lbX9_takeBack_44 1 q3 (nI N) x5 s.1 s.2 = some (.inl s') ∧ lbX12_undo_75 x1 t.1 t.2 = some (.inl t') ∧ (∃ n, r ≤ n ∧ n ≤ N ∧ s'.1 = nI n ∧ t'.1 = nI n ∧ VX s'.2 (t'.2.1 402) ∧ UB (t'.2.1 402) n ∧ (∀ k, (k < 12 ∨ 24 ≤ k) → t'.2.1 402 k = μm.1 402 k) ∧ (∀ c, c ≠ 13 → c ≠ 14 → s'.2.1 c = μc.1 c) ∧ s'.2.2 = μc.2 ∧ EM μm t'.2) ∧ N - s'.1.toNatClampNeg < N - s.1.toNatClampNeg) ∨
      (∃ ρ ρ', lbX9_takeBack_44 1 q3 (nI N) x5 s.1 s.2 = some (.inr ρ) ∧ lbX12_undo_75 x1 t.1 t.2 = some (.inr ρ') ∧ ∃ μc' μm', ρ = .inl μc' ∧ ρ' = .inl μm' ∧ VX μc' (μm'.1 402) ∧ UB (μm'.1 402) N ∧ (∀ k, (k < 12 ∨ 24 ≤ k) → μm'.1 402 k = μm.1 402 k) ∧ (∀ c, c ≠ 13 → c ≠ 14 → μc'.1 c = μc.1 c) ∧ μc'.2 = μc.2 ∧ EM μm μm') := by
    rintro ⟨v, ν⟩ ⟨v', ν'⟩ ⟨n, h1, h2, e1, e2, k1, k2, k3, k4, k5, k6⟩
    dsimp only at e1 e2 k1 k2 k3 k4 k5 k6 ⊢
    subst e1 e2
    unfold lbX9_takeBack_44 lbX12_undo_75
    rw [k3 0 (by omega), hN]
    by_cases hn : n = N
    · subst hn
      right
      have hle : nI n ≤ nI n := by rw [le_n (by omega) (by omega)]; omega
      simp only [if_pos hle]
      exact ⟨_, _, rfl, rfl, ν, ν', rfl, rfl, k1, k2, k3, k4, k5, k6⟩
    · left
      have hle : ¬ nI N ≤ nI n := by rw [le_n (by omega) (by omega)]; omega
      have h6 : ¬ (6 : Int32) ≤ nI n := by rw [l_le (n := 6) (by omega) (by omega)]; omega
      simp (disch := omega) only [if_neg hle, if_neg h6, chk_n, cl_n, go_let, wi_c]
      have hsd : vz_sd (ν'.1 402 (30 + n)) := by rw [k3 _ (by omega)]; exact hs n (by omega)
      obtain ⟨z, z1, z2, z3, z4⟩ := q_begin (by omega) hsd
      have hsc : ν.1 (1 + 1) n = ν'.1 402 (30 + n) := by
        have := k1 (30 + n) (by omega) (by omega)
        rw [vl_sounds n (by omega)] at this
        exact this
      rw [hsc, z3, z4, Option.bind_some, Option.bind_some, add_l 1]
      refine ⟨_, _, rfl, rfl, ⟨n + 1, by omega, by omega, rfl, rfl, ?_, ?_, fun k hk => ?_, fun c h3 h4 => ?_, ?_, ?_⟩, ?_⟩
      · dsimp only
        simp only [wi_u]
        exact VX_set (VX_set k1 (k := 12 + 2 * n) (by omega) (vl_place n (by omega)) (-1)) (k := 13 + 2 * n) (by omega) (vl_size n (by omega)) (nI z)
      · dsimp only
        simp only [wi_u]
        have u1 : UB (upd (upd (ν'.1 402) (12 + 2 * n) (-1)) (13 + 2 * n) (nI z)) n := by
          refine UB_set (UB_set k2 ?_ (fun m _ _ => ?_) (fun m _ _ => by omega)) ?_ (fun m _ _ => by omega) (fun m _ _ => ?_)
          · rw [(vb_place n (by omega)).1, (vb_place n (by omega)).2]; decide
          · left; decide
          · rw [(vb_size n (by omega)).1, (vb_size n (by omega)).2, ti_n (by omega)]; omega
          · rw [ti_n (by omega)]; omega
        refine ⟨u1.1, u1.2.1, fun m hm hm6 => ?_⟩
        by_cases e : m = n
        · subst e
          rw [upd_e, ti_n (by omega)]; omega
        · exact u1.2.2 m (by omega) hm6
      · dsimp only
        rw [wi_i (by omega), wi_i (by omega)]
        exact k3 k hk
      · dsimp only
        rw [wi_c h4, wi_c h3]
        exact k4 c h3 h4
      · dsimp only
        rw [wi_2, wi_2]; exact k5
      · exact (k6.wi (by omega)).wi (by omega)
      · dsimp only
        rw [cl_n (by omega)]; omega
  obtain ⟨ρ, ρ', e1, e2, μc', μm', rfl, rfl, k⟩ := lp_two (f := fun s : Int32 × PM => lbX9_takeBack_44 1 q3 (nI N) x5 s.1 s.2) (g := fun s : Int32 × PM => lbX12_undo_75 x1 s.1 s.2) _ (fun s => N - s.1.toNatClampNeg) _ step go_fuel go_fuel (nI r, μc) (nI r, μm) ⟨r, Nat.le_refl _, hr, rfl, rfl, h, hu, fun _ _ => rfl, fun _ _ _ => rfl, rfl, EM.rfl' μm⟩ (by unfold go_fuel; omega) (by unfold go_fuel; omega)
  exact ⟨μc', μm', e1, e2, k⟩
/-- FAMILIES that the STEP didn't know -/
theorem un_fams {F : Nat} (hF5 : F ≤ 5) {x4 x2 : Int32} {r N : Nat} (hr : r ≤ F) {μc μm : PM} (h : VX μc (μm.1 402)) (hu : UB (μm.1 402) N) (hF : μm.1 402 1 = nI F) (hb : ∀ f, f < 5 → 0 ≤ (μm.1 402 (47 + f)).toInt ∧ (μm.1 402 (47 + f)).toInt ≤ 9) :
    ∃ μc' μm', lp (fun s : Int32 × PM => lbX9_takeBack_100 1 x4 (nI F) s.1 s.2) go_fuel (nI r, μc) = some (.inl μc') ∧ lp (fun s : Int32 × PM => lbX12_undo_105 x2 s.1 s.2) go_fuel (nI r, μm) = some (.inl μm') ∧ VX μc' (μm'.1 402) ∧ UB (μm'.1 402) N ∧ (∀ k, (k < 24 ∨ 29 ≤ k) → μm'.1 402 k = μm.1 402 k) ∧ (∀ c, c ≠ 15 → μc'.1 c = μc.1 c) ∧ μc'.2 = μc.2 ∧ EM μm μm' := by
  have step : ∀ (s t : Int32 × PM), (∃ n, r ≤ n ∧ n ≤ F ∧ s.1 = nI n ∧ t.1 = nI n ∧ VX s.2 (t.2.1 402) ∧ UB (t.2.1 402) N ∧ (∀ k, (k < 24 ∨ 29 ≤ k) → t.2.1 402 k = μm.1 402 k) ∧ (∀ c, c ≠ 15 → s.2.1 c = μc.1 c) ∧ s.2.2 = μc.2 ∧ EM μm t.2) →
      (∃ s' t', lbX9_takeBack_100 1 x4 (nI F) s.1 s.2 = some (.inl s') ∧ lbX12_undo_105 x2 t.1 t.2 = some (.inl t') ∧ (∃ n, r ≤ n ∧ n ≤ F ∧ s'.1 = nI n ∧ t'.1 = nI n ∧ VX s'.2 (t'.2.1 402) ∧ UB (t'.2.1 402) N ∧ (∀ k, (k < 24 ∨ 29 ≤ k) → t'.2.1 402 k = μm.1 402 k) ∧ (∀ c, c ≠ 15 → s'.2.1 c = μc.1 c) ∧ s'.2.2 = μc.2 ∧ EM μm t'.2) ∧ F - s'.1.toNatClampNeg < F - s.1.toNatClampNeg) ∨
      (∃ ρ ρ', lbX9_takeBack_100 1 x4 (nI F) s.1 s.2 = some (.inr ρ) ∧ lbX12_undo_105 x2 t.1 t.2 = some (.inr ρ') ∧ ∃ μc' μm', ρ = .inl μc' ∧ ρ' = .inl μm' ∧ VX μc' (μm'.1 402) ∧ UB (μm'.1 402) N ∧ (∀ k, (k < 24 ∨ 29 ≤ k) → μm'.1 402 k = μm.1 402 k) ∧ (∀ c, c ≠ 15 → μc'.1 c = μc.1 c) ∧ μc'.2 = μc.2 ∧ EM μm μm') := by
    rintro ⟨v, ν⟩ ⟨v', ν'⟩ ⟨n, h1, h2, e1, e2, k1, k2, k3, k4, k5, k6⟩
    dsimp only at e1 e2 k1 k2 k3 k4 k5 k6 ⊢
    subst e1 e2
    unfold lbX9_takeBack_100 lbX12_undo_105
    rw [k3 1 (by omega), hF]
    by_cases hn : n = F
    · subst hn
      right
      have hle : nI n ≤ nI n := by rw [le_n (by omega) (by omega)]; omega
      simp only [if_pos hle]
      exact ⟨_, _, rfl, rfl, ν, ν', rfl, rfl, k1, k2, k3, k4, k5, k6⟩
    · left
      have hle : ¬ nI F ≤ nI n := by rw [le_n (by omega) (by omega)]; omega
      have h6 : ¬ (5 : Int32) ≤ nI n := by rw [l_le (n := 5) (by omega) (by omega)]; omega
      simp (disch := omega) only [if_neg hle, if_neg h6, chk_n, cl_n, go_let, l_add 47, l_add 24, add_l 1]
      have hsc : ν.1 (1 + 4) n = ν'.1 402 (47 + n) := by
        have := k1 (47 + n) (by omega) (by omega)
        rw [vl_home n (by omega)] at this
        exact this
      rw [hsc]
      refine ⟨_, _, rfl, rfl, ⟨n + 1, by omega, by omega, rfl, rfl, ?_, ?_, fun k hk => ?_, fun c h3 => ?_, ?_, ?_⟩, ?_⟩
      · dsimp only
        simp only [wi_u]
        exact VX_set k1 (k := 24 + n) (by omega) (vl_stand n (by omega)) _
      · dsimp only
        simp only [wi_u]
        refine UB_set k2 ?_ (fun m _ _ => by omega) (fun m _ _ => by omega)
        rw [(vb_stand n (by omega)).1, (vb_stand n (by omega)).2, k3 _ (by omega)]
        exact hb n (by omega)
      · dsimp only
        rw [wi_i (by omega)]
        exact k3 k hk
      · dsimp only
        rw [wi_c h3]
        exact k4 c h3
      · dsimp only
        rw [wi_2]; exact k5
      · exact k6.wi (by omega)
      · dsimp only
        rw [cl_n (by omega)]; omega
  obtain ⟨ρ, ρ', e1, e2, μc', μm', rfl, rfl, k⟩ := lp_two (f := fun s : Int32 × PM => lbX9_takeBack_100 1 x4 (nI F) s.1 s.2) (g := fun s : Int32 × PM => lbX12_undo_105 x2 s.1 s.2) _ (fun s => F - s.1.toNatClampNeg) _ step go_fuel go_fuel (nI r, μc) (nI r, μm) ⟨r, Nat.le_refl _, hr, rfl, rfl, h, hu, fun _ _ => rfl, fun _ _ => rfl, rfl, EM.rfl' μm⟩ (by unfold go_fuel; omega) (by unfold go_fuel; omega)
  exact ⟨μc', μm', e1, e2, k⟩
theorem c_undo : BOTH fX11_undo fX12_undo := by
  intro μc μm h
  have hV := h.1
  obtain ⟨hF, hB, ⟨f, hf, hf1, hS⟩, hO⟩ := id hV
  have hb := ob_count hO.1
  obtain ⟨K, hK, hK31, hK2⟩ := nz_of (v := μm.1 402 4) (k := 31) hb.1 (by omega)
  have hKc : μc.1 17 2 = nI K := by rw [v1_count hF]; exact hK
  have hf1 : μc.1 17 1 = nI f := hf1
  rw [hK, cl_n (by omega)] at hS
  unfold fX11_undo fX12_undo fX9_takeBack fX7_takeLatest
  simp only [show 1 + 16 = 17 from rfl, show 1 + 11 = 12 from rfl]
  rw [hKc, hK]
  by_cases hK0 : K = 0
  · subst hK0
    rw [if_neg (by decide), if_pos (by decide)]
    exact ⟨-1, μc, μm, rfl, rfl, h, FrC.rfl' _, FrM.rfl' _⟩
  rw [if_pos (show (0 : Int32) < nI K by rw [l_lt (n := 0) (by omega) (by omega)]; omega), if_neg (show ¬ nI K = 0 by rw [eq_l (n := 0) (by omega) (by omega)]; exact hK0), sub_l (n := 1) (by omega)]
  obtain ⟨C, rfl⟩ : ∃ C, K = C + 1 := ⟨K - 1, by omega⟩
  rw [show C + 1 - 1 = C by omega]
  obtain ⟨N, hN, hN7, hN2⟩ := nz_of (v := μm.1 402 0) (k := 7) (ob_names hO.1).1 (by have := (ob_names hO.1).2; omega)
  obtain ⟨F, hFm, hF6, hF2⟩ := nz_of (v := μm.1 402 1) (k := 6) (ob_families hO.1).1 (by have := (ob_families hO.1).2; omega)
  obtain ⟨o1, o2, o3, o4, o5, o6, o7, o8⟩ := id hO
  have hrow := o7 C (by omega)
  have hwr := hS C (by omega)
  have hm30 := Nat.mod_lt (f + C) (show 0 < 30 by decide)
  have rb0 := hrow.1.1 0 (by omega)
  have rb1 := hrow.1.1 1 (by omega)
  rw [if_pos (by omega)] at rb0 rb1
  have rb0 : 0 ≤ (μm.1 402 (142 + 54 * C + 0)).toInt ∧ (μm.1 402 (142 + 54 * C + 0)).toInt ≤ 6 := rb0
  have rb1 : 0 ≤ (μm.1 402 (142 + 54 * C + 1)).toInt ∧ (μm.1 402 (142 + 54 * C + 1)).toInt ≤ 5 := rb1
  rw [Nat.add_zero] at rb0
  obtain ⟨rN, hrN, hrN7, hrN2⟩ := nz_of (v := μm.1 402 (142 + 54 * C)) (k := 7) rb0.1 (by omega)
  obtain ⟨rF, hrF, hrF6, hrF2⟩ := nz_of (v := μm.1 402 (142 + 54 * C + 1)) (k := 6) rb1.1 (by omega)
  have hrN' : rN ≤ N := by have := hrow.2.1; omega
  have hrF' : rF ≤ F := by have := hrow.2.2; omega
  -- the class, as far as the Water that was kept
  simp only [go_let]
  have hslot : fX7_slotOf (pm_wi μc 17 2 (nI C)) 17 ((pm_wi μc 17 2 (nI C)).1 17 2) = some (some (17 + 2 + 5 * ((f + C) % 30))) := by
    rw [wi_e]
    exact so_e (by rw [wi_i (by omega)]; exact hf1) hf (by omega)
  rw [hslot, Option.bind_some, Option.bind_some]
  simp only [go_op]
  -- the reference, as far
  rw [wi_e]
  simp (disch := omega) only [l_mul 54, l_add 142]
  rw [lp_cp (a := 402) (b := 402) (s := 142 + 54 * C + 2) (d := 7) (n := 22) (g := fun μ' => .inl μ') (fun i μ' hi => by
    dsimp only
    unfold lbX12_undo_37
    rw [if_neg (by rw [l_le (n := 22) (by omega) (by omega)]; omega)]
    simp (disch := omega) only [go_let, l_add 7, add_l 2, nI_add, chk_n, cl_n, add_l 1]) (fun μ' => by
    dsimp only
    unfold lbX12_undo_37
    rw [if_pos (by decide)]) (by omega) (by decide), Option.bind_some]
  simp only [go_cs]
  simp (disch := omega) only [chk_n, cl_n, add_l 1]
  have hcB : ∀ c, c < 12 ∨ 16 < c → c ≠ 17 → (fX10_become (pm_wi μc 17 2 (nI C)) 12 (17 + 2 + 5 * ((f + C) % 30))).1 c = μc.1 c := fun c h1 h2 => by rw [bc_c (by omega), wi_c h2]
  generalize hM1 : pm_cp (pm_wi μm 402 4 (nI C)) 402 402 (142 + 54 * C + 2) 7 22 = M1
  have m1lo : ∀ k, (k < 7 ∨ 29 ≤ k) → k ≠ 4 → M1.1 402 k = μm.1 402 k := fun k h1 h2 => by
    rw [← hM1, cp_out (by omega), wi_i h2]
  have m14 : M1.1 402 4 = nI C := by rw [← hM1, cp_out (by omega), wi_e]
  have m1hi : ∀ j, 2 ≤ j → j < 24 → M1.1 402 (5 + j) = μm.1 402 (142 + 54 * C + j) := fun j h1 h2 => by
    rw [← hM1, cp_in (by omega) (by omega), wi_i (by omega), show 142 + 54 * C + 2 + (5 + j - 7) = 142 + 54 * C + j by omega]
  have m1E : EM μm M1 := by rw [← hM1]; exact ((EM.rfl' μm).wi (by omega)).cp
  have hwB : WR (pm_wi μc 17 2 (nI C)) (17 + 2 + 5 * ((f + C) % 30)) (fun j => μm.1 402 (142 + 54 * C + j)) := by
    rw [show 1 + 18 + 5 * ((f + C) % 30) = 17 + 2 + 5 * ((f + C) % 30) by omega] at hwr
    exact WR_eq hwr (fun c h1 h2 => wi_c (by omega)) (fun _ _ => rfl)
  have hwB2 := bc_W (o := 12) hwB (by omega)
  generalize hC1 : fX10_become (pm_wi μc 17 2 (nI C)) 12 (17 + 2 + 5 * ((f + C) % 30)) = C1 at hcB hwB2 ⊢
  have c117 : C1.1 17 = (pm_wi μc 17 2 (nI C)).1 17 := by rw [← hC1, bc_c (by omega)]
  have c12 : C1.2 = μc.2 := by rw [← hC1, bc_2', wi_2]
  -- what the kept Water knew
  have sl5 : C1.1 (17 + 2 + 5 * ((f + C) % 30)) 5 = nI rN := by
    rw [hcB _ (by omega) (by omega)]
    have := hwB.1 0 (by omega)
    rw [show vz_wl 0 = (0, 5) from rfl, wi_c (by omega)] at this
    exact this.trans hrN
  have sl6 : C1.1 (17 + 2 + 5 * ((f + C) % 30)) 6 = nI rF := by
    rw [hcB _ (by omega) (by omega)]
    have := hwB.1 1 (by omega)
    rw [show vz_wl 1 = (0, 6) from rfl, wi_c (by omega)] at this
    exact this.trans hrF
  have hNc : (pm_wi μc 17 2 (nI C)).1 12 5 = nI N := by rw [wi_c (by omega), v1_names hF]; exact hN
  have hFc : (pm_wi μc 17 2 (nI C)).1 12 6 = nI F := by rw [wi_c (by omega), v1_families hF]; exact hFm
  rw [hNc, hFc, sl5]
  have hVX : VX C1 (M1.1 402) := by
    intro k hk hk2
    by_cases h7 : 7 ≤ k ∧ k < 29
    · have hw : C1.1 (12 + (vz_wl (k - 5)).1) (vz_wl (k - 5)).2 = μm.1 402 (142 + 54 * C + (k - 5)) := hwB2.1 (k - 5) (by omega)
      have hl := vz_wloc (k - 5) (by omega)
      rw [if_neg (by omega), show 5 + (k - 5) = k by omega] at hl
      have h3 := m1hi (k - 5) (by omega) (by omega)
      rw [show 5 + (k - 5) = k by omega] at h3
      rw [hl, h3, ← hw]
      dsimp only
      rw [show 1 + (11 + (vz_wl (k - 5)).1) = 12 + (vz_wl (k - 5)).1 by omega]
    · have hl := vz_loc_le k hk
      by_cases h4 : k = 4
      · subst h4
        rw [m14]
        show C1.1 17 2 = _
        rw [c117, wi_e]
      · have h16 : (vz_loc k).1 ≠ 16 := fun q => h4 (vz_inj k hk 4 (by omega) (Prod.ext q (hl.2.2.1 q)))
        have hso := vz_sort k hk
        rw [m1lo k (by omega) h4, ← hF k hk, hcB _ (by omega) (by omega)]
  have hUB : UB (M1.1 402) rN := by
    refine ⟨fun k h1 h2 => ?_, fun m hm => ?_, fun m hm hm6 => ?_⟩
    · have h3 := m1hi (k - 5) (by omega) (by omega)
      rw [show 5 + (k - 5) = k by omega] at h3
      have := hrow.1.1 (k - 5) (by omega)
      rw [if_neg (by omega), show 5 + (k - 5) = k by omega] at this
      rw [h3]; exact this
    · have h3 := m1hi (7 + 2 * m) (by omega) (by omega)
      rw [show 5 + (7 + 2 * m) = 12 + 2 * m by omega] at h3
      rw [h3]; exact hrow.1.2.1 m hm
    · have h3 := m1hi (8 + 2 * m) (by omega) (by omega)
      rw [show 5 + (8 + 2 * m) = 13 + 2 * m by omega] at h3
      rw [h3]; exact hrow.1.2.2 m (by show (m : Int) < (μm.1 402 (142 + 54 * C)).toInt; rw [hrN2]; omega) hm6
  rw [m1lo (142 + 54 * C) (by omega) (by omega), hrN]
  obtain ⟨C2, M2, e1, e2, n1, n2, n3, n4, n5, n6⟩ := un_names (x5 := nI F) (x1 := nI (142 + 54 * C)) (q3 := 17 + 2 + 5 * ((f + C) % 30)) (by omega) hrN' hVX hUB (by rw [m1lo 0 (by omega) (by omega)]; exact hN) (fun n hn => by rw [m1lo _ (by omega) (by omega)]; exact o3 n (by omega))
  rw [e1, e2, Option.bind_some, Option.bind_some]
  simp only [go_cs]
  unfold jjX9_takeBack_94
  rw [n4 (17 + 2 + 5 * ((f + C) % 30)) (by omega) (by omega), sl6, n3 (142 + 54 * C + 1) (by omega), m1lo (142 + 54 * C + 1) (by omega) (by omega), hrF]
  obtain ⟨C3, M3, e3, e4, f1, f2, f3, f4, f5, f6⟩ := un_fams (x4 := nI N) (x2 := nI (142 + 54 * C)) (by omega) hrF' n1 n2 (by rw [n3 1 (by omega), m1lo 1 (by omega) (by omega)]; exact hFm) (fun x hx => by rw [n3 _ (by omega), m1lo _ (by omega) (by omega)]; exact ob_home o1 hx)
  rw [e3, e4, Option.bind_some, Option.bind_some]
  simp only [go_cs]
  rw [lp_cp (a := 402) (b := 402) (s := 142 + 54 * C + 24) (d := 1762) (n := 30) (g := fun μ' => (μ'.1 402 4, μ')) (fun i μ' hi => by
    dsimp only
    unfold lbX12_undo_141
    rw [if_neg (by rw [l_le (n := 30) (by omega) (by omega)]; omega)]
    simp (disch := omega) only [go_let, l_add 1762, add_l 24, nI_add, chk_n, cl_n, add_l 1]) (fun μ' => by
    dsimp only
    unfold lbX12_undo_141
    rw [if_pos (by decide)]) (by omega) (by decide), Option.bind_some]
  unfold jjX9_takeBack_135
  simp only [go_let, Option.bind_some]
  rw [if_neg (by decide)]
  -- all that is behind it
  have aM : ∀ k, k < 1762 → (k < 12 ∨ 29 ≤ k) → (k < 7 ∨ 29 ≤ k) → k ≠ 4 → (pm_cp M3 402 402 (142 + 54 * C + 24) 1762 30).1 402 k = μm.1 402 k := fun k h1 h2 h3 h4 => by
    rw [cp_out (by omega), f3 k (by omega), n3 k (by omega), m1lo k (by omega) h4]
  have aM4 : (pm_cp M3 402 402 (142 + 54 * C + 24) 1762 30).1 402 4 = nI C := by rw [cp_out (by omega), f3 4 (by omega), n3 4 (by omega), m14]
  have aMM : ∀ k, k < 1762 → (pm_cp M3 402 402 (142 + 54 * C + 24) 1762 30).1 402 k = M3.1 402 k := fun k h1 => cp_out (by omega)
  have aMB : ∀ k, k < 30 → (pm_cp M3 402 402 (142 + 54 * C + 24) 1762 30).1 402 (1762 + k) = μm.1 402 (142 + 54 * C + (24 + k)) := fun k hk => by
    rw [cp_in (by omega) (by omega), f3 _ (by omega), n3 _ (by omega), m1lo _ (by omega) (by omega), show 142 + 54 * C + 24 + (1762 + k - 1762) = 142 + 54 * C + (24 + k) by omega]
  have cC : ∀ c, c < 12 ∨ 16 ≤ c → C3.1 c = C1.1 c := fun c hc => by rw [f4 c (by omega), n4 c (by omega) (by omega)]
  have c17 : C3.1 17 = (pm_wi μc 17 2 (nI C)).1 17 := by rw [cC 17 (by omega), c117]
  have hcnt : (pm_wi (pm_wi C3 (1 + 11) 5 (nI N)) (1 + 11) 6 (nI F)).1 17 2 = nI C := by
    rw [wi_c (by omega), wi_c (by omega), c17, wi_e]
  refine ⟨nI C, pm_wi (pm_wi C3 (1 + 11) 5 (nI N)) (1 + 11) 6 (nI F), pm_cp M3 402 402 (142 + 54 * C + 24) 1762 30, ?_, ?_, RR_of h ?_ ?_ ⟨fun k hk => ?_, fun k hk => ?_, ⟨f, hf, ?_, fun i hi => ?_⟩, ?_⟩ ?_⟩
  · rw [hcnt]
  · rw [aM4]
  · refine ⟨?_, fun c h1 h2 => ?_, fun c h1 h2 => ?_, fun c h1 => ?_, ?_⟩
    · rw [wi_c (by omega), wi_c (by omega), cC _ (by omega), hcB _ (by omega) (by omega)]
    · rw [wi_c (by omega), wi_c (by omega), cC _ (by omega), hcB _ (by omega) (by omega)]
    · rw [wi_c (by omega), wi_c (by omega), cC _ (by omega), hcB _ (by omega) (by omega)]
    · rw [wi_c (by omega), wi_c (by omega), cC _ (by omega), hcB _ (by omega) (by omega)]
    · rw [wi_2, wi_2, f5, n5, c12]
  · exact ((m1E.tr n6).tr f6).cp
  · rw [aMM k (by omega)]
    by_cases k0 : k = 0
    · subst k0
      rw [f3 0 (by omega), n3 0 (by omega), m1lo 0 (by omega) (by omega), hN]
      show (pm_wi (pm_wi C3 (1 + 11) 5 (nI N)) (1 + 11) 6 (nI F)).1 (1 + 11) 5 = _
      rw [wi_i (by omega), wi_e]
    by_cases k1 : k = 1
    · subst k1
      rw [f3 1 (by omega), n3 1 (by omega), m1lo 1 (by omega) (by omega), hFm]
      show (pm_wi (pm_wi C3 (1 + 11) 5 (nI N)) (1 + 11) 6 (nI F)).1 (1 + 11) 6 = _
      rw [wi_e]
    have q0 : ¬ (1 + (vz_loc k).1 = 1 + 11 ∧ (vz_loc k).2 = 5) := fun q => k0 (vz_inj k hk 0 (by omega) (Prod.ext (show _ = 11 by omega) q.2))
    have q1 : ¬ (1 + (vz_loc k).1 = 1 + 11 ∧ (vz_loc k).2 = 6) := fun q => k1 (vz_inj k hk 1 (by omega) (Prod.ext (show _ = 11 by omega) q.2))
    rw [wi_r, if_neg q1, wi_r, if_neg q0]
    exact f1 k hk (by omega)
  · rw [wi_c (by omega), wi_c (by omega), cC _ (by omega), aMB k hk]
    exact hwB2.2 k hk
  · show (pm_wi (pm_wi C3 (1 + 11) 5 (nI N)) (1 + 11) 6 (nI F)).1 17 1 = nI f
    rw [wi_c (by omega), wi_c (by omega), c17, wi_i (by omega)]
    exact hf1
  · rw [aM4, cl_n (by omega)] at hi
    have hm2 := Nat.mod_lt (f + i) (show 0 < 30 by decide)
    refine WR_eq (hS i (by omega)) (fun c h1 h2 => ?_) (fun j hj => aM _ (by omega) (by omega) (by omega) (by omega))
    rw [wi_c (by omega), wi_c (by omega), cC _ (by omega), hcB _ (by omega) (by omega)]
  · have hcur : ∀ j, j < 24 → 2 ≤ j → vz_cur ((pm_cp M3 402 402 (142 + 54 * C + 24) 1762 30).1 402) j = M3.1 402 (5 + j) := fun j hj h2 => by
      rw [vz_cur_lo hj, if_neg (by omega), aMM _ (by omega)]
    have hc0 : vz_cur ((pm_cp M3 402 402 (142 + 54 * C + 24) 1762 30).1 402) 0 = nI N := by
      rw [vz_cur_lo (by omega), if_pos (by omega), aM 0 (by omega) (by omega) (by omega) (by omega), hN]
    have hnm := ob_names o1
    have hsc := ob_saidCount o1
    refine ⟨OB_eq o1 (fun k hk => ?_), ⟨fun j hj => ?_, fun n hn => ?_, fun n hn hn6 => ?_⟩, fun n hn => ?_, ?_, fun x hx => ?_, fun i hi => ?_, fun i hi => ?_, fun i hi => ?_⟩
    · by_cases k4 : k = 4
      · subst k4; right
        rw [aM4, ti_n (by omega)]
        show 0 ≤ _ ∧ _ ≤ 30
        omega
      · by_cases k7 : 7 ≤ k ∧ k < 29
        · right
          rw [aMM k (by omega)]
          exact f2.1 k k7.1 k7.2
        · left
          exact aM k (by omega) (by omega) (by omega) k4
    · by_cases j2 : j < 2
      · rw [vz_cur_lo hj, if_pos j2, aM j (by omega) (by omega) (by omega) (by omega)]
        exact o1 j (by omega)
      · rw [hcur j hj (by omega), if_neg j2]
        exact f2.1 _ (by omega) (by omega)
    · rw [hcur _ (by omega) (by omega), show 5 + (7 + 2 * n) = 12 + 2 * n by omega]
      exact f2.2.1 n hn
    · rw [hc0, ti_n (by omega)] at hn
      rw [hcur _ (by omega) (by omega), show 5 + (8 + 2 * n) = 13 + 2 * n by omega]
      exact f2.2.2 n (by omega) hn6
    · rw [aM 0 (by omega) (by omega) (by omega) (by omega)] at hn
      rw [aM _ (by omega) (by omega) (by omega) (by omega)]
      exact o3 n hn
    · rw [aM 3 (by omega) (by omega) (by omega) (by omega), aM 2 (by omega) (by omega) (by omega) (by omega)]
      exact o4
    · rw [aM (112 + x) (by omega) (by omega) (by omega) (by omega), aM 0 (by omega) (by omega) (by omega) (by omega), aM 1 (by omega) (by omega) (by omega) (by omega)]
      refine ⟨(o5 x hx).1, (o5 x hx).2.1, fun y hy => ?_⟩
      rw [aM _ (by omega) (by omega) (by omega) (by omega)]
      exact (o5 x hx).2.2 y hy
    · rw [aM 6 (by omega) (by omega) (by omega) (by omega)] at hi
      rw [aM _ (by omega) (by omega) (by omega) (by omega), aM 0 (by omega) (by omega) (by omega) (by omega)]
      exact o6 i hi
    · rw [aM4, ti_n (by omega)] at hi
      rw [aM (142 + 54 * i) (by omega) (by omega) (by omega) (by omega), aM (142 + 54 * i + 1) (by omega) (by omega) (by omega) (by omega), aM 0 (by omega) (by omega) (by omega) (by omega), aM 1 (by omega) (by omega) (by omega) (by omega)]
      have w := o7 i (by omega)
      exact ⟨WO_eq w.1 (fun j hj => aM _ (by omega) (by omega) (by omega) (by omega)), w.2⟩
    · rw [aM (117 + i) (by omega) (by omega) (by omega) (by omega)]
      exact o8 i hi
  · exact aM 2 (by omega) (by omega) (by omega) (by omega)
