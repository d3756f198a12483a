/-! ===== an IMAGE, and back to it ===== -/
theorem sb_main {μ : PM} {o p f C : Nat} {R : Nat → Nat → Int32} (hd : p + 168 ≤ o ∨ o + 168 ≤ p) (hf : f < 30) (h1 : μ.1 (p + 16) 1 = nI f) (hC : μ.1 (p + 16) 2 = nI C) (hC30 : C ≤ 30) (hR : ∀ i, i < C → WR μ (p + 18 + 5 * ((f + i) % 30)) (R i)) :
    ∃ μ', fX7_become μ (o + 16) (p + 16) = some μ' ∧ (∀ c, c < o + 16 ∨ o + 167 < c → μ'.1 c = μ.1 c) ∧ μ'.1 (o + 16) 1 = 0 ∧ μ'.1 (o + 16) 2 = nI C ∧ (∀ i, i < C → WR μ' (o + 18 + 5 * i) (R i)) ∧ μ'.2 = μ.2 := by
  have step : ∀ s : Int32 × PM, (∃ i, i ≤ C ∧ s.1 = nI i ∧ (∀ c, c < o + 18 ∨ o + 167 < c → s.2.1 c = μ.1 c) ∧ (∀ j, j < i → WR s.2 (o + 18 + 5 * j) (R j)) ∧ s.2.2 = μ.2) → (∃ s', lbX7_become_2 (o + 16) (p + 16) s.1 s.2 = some (.inl s') ∧ (∃ i, i ≤ C ∧ s'.1 = nI i ∧ (∀ c, c < o + 18 ∨ o + 167 < c → s'.2.1 c = μ.1 c) ∧ (∀ j, j < i → WR s'.2 (o + 18 + 5 * j) (R j)) ∧ s'.2.2 = μ.2) ∧ C - s'.1.toNatClampNeg < C - s.1.toNatClampNeg) ∨ (∃ r, lbX7_become_2 (o + 16) (p + 16) s.1 s.2 = some (.inr r) ∧ ∃ μ', r = .inl μ' ∧ (∀ c, c < o + 18 ∨ o + 167 < c → μ'.1 c = μ.1 c) ∧ (∀ j, j < C → WR μ' (o + 18 + 5 * j) (R j)) ∧ μ'.2 = μ.2) := by
    rintro ⟨v, ν⟩ ⟨i, hi, hv, k1, k2, k3⟩
    dsimp only at hv k1 k2 k3 ⊢
    subst hv
    unfold lbX7_become_2
    rw [k1 (p + 16) (by omega), hC]
    by_cases hiC : i = C
    · subst hiC
      right
      rw [if_pos (by rw [le_n (by omega) (by omega)]; omega)]
      exact ⟨_, rfl, ν, rfl, k1, k2, k3⟩
    · left
      have hm := Nat.mod_lt (f + i) (show 0 < 30 by decide)
      rw [if_neg (by rw [le_n (by omega) (by omega)]; omega), if_neg (by rw [l_le (n := 30) (by omega) (by omega)]; omega), so_e (μ := ν) (g := f) (by rw [k1 (p + 16) (by omega)]; exact h1) hf (by omega)]
      simp (disch := omega) only [Option.bind_some, go_op, chk_n, cl_n, go_let, add_l 1]
      refine ⟨_, rfl, ⟨i + 1, by omega, rfl, fun c hc => ?_, fun j hj => ?_, ?_⟩, ?_⟩
      · dsimp only
        rw [bc_c (by omega)]
        exact k1 c hc
      · dsimp only
        by_cases e : j = i
        · subst e
          have w : WR ν (p + 16 + 2 + 5 * ((f + j) % 30)) (R j) := by
            have w0 := hR j (by omega)
            rw [show p + 18 + 5 * ((f + j) % 30) = p + 16 + 2 + 5 * ((f + j) % 30) by omega] at w0
            exact WR_eq w0 (fun c q1 q2 => k1 c (by omega)) (fun _ _ => rfl)
          have := bc_W (o := o + 16 + 2 + 5 * j) w (by omega)
          rw [show o + 18 + 5 * j = o + 16 + 2 + 5 * j by omega]
          exact this
        · exact WR_eq (k2 j (by omega)) (fun c q1 q2 => bc_c (by omega)) (fun _ _ => rfl)
      · dsimp only
        rw [bc_2']; exact k3
      · dsimp only
        rw [cl_n (by omega)]; omega
  obtain ⟨r, e1, μ', rfl, e2, e3, e4⟩ := lp_inv (f := fun s : Int32 × PM => lbX7_become_2 (o + 16) (p + 16) s.1 s.2) _ (fun s => C - s.1.toNatClampNeg) _ step go_fuel (0, μ) ⟨0, by omega, rfl, fun _ _ => rfl, fun j hj => by omega, rfl⟩ (by unfold go_fuel; omega)
  unfold fX7_become jjX7_become_51
  rw [e1, Option.bind_some]
  simp only [go_cs, go_let]
  refine ⟨_, rfl, fun c hc => ?_, ?_, ?_, fun i hi => ?_, ?_⟩
  · rw [wi_c (by omega), wi_c (by omega)]
    exact e2 c (by omega)
  · rw [wi_i (by omega), wi_e]
  · rw [wi_e, wi_c (by omega), e2 _ (by omega), hC]
  · exact WR_eq (e3 i hi) (fun c q1 q2 => by rw [wi_c (by omega), wi_c (by omega)]) (fun _ _ => rfl)
  · rw [wi_2, wi_2]; exact e4
def vz_ln (m : Nat) : Nat := ([0, 6, 6, 5, 5, 30, 30, 5, 8, 8, 8] : List Nat).getD m 0
theorem vz_sort : ∀ k, k < 142 → (k < 2 ∨ (7 ≤ k ∧ k < 29)) ∨ k = 4 ∨ ((vz_loc k).1 = 0 ∧ 12 ≤ (vz_loc k).2 ∧ (vz_loc k).2 ≤ 17) ∨ (1 ≤ (vz_loc k).1 ∧ (vz_loc k).1 ≤ 10 ∧ (vz_loc k).2 < vz_ln (vz_loc k).1) := by decide +kernel
theorem vz_wloc : ∀ j, j < 24 → vz_loc (if j < 2 then j else 5 + j) = (11 + (vz_wl j).1, (vz_wl j).2) := by decide +kernel
def bv_A (μ : PM) (o p : Nat) : PM := pm_cp (pm_cp (pm_cp (pm_cp (pm_cp (pm_cp (pm_cp (pm_cp (pm_cp (pm_cp μ (p + 1) (o + 1) 0 0 6) (p + 2) (o + 2) 0 0 6) (p + 3) (o + 3) 0 0 5) (p + 4) (o + 4) 0 0 5) (p + 5) (o + 5) 0 0 30) (p + 6) (o + 6) 0 0 30) (p + 7) (o + 7) 0 0 5) (p + 8) (o + 8) 0 0 8) (p + 9) (o + 9) 0 0 8) (p + 10) (o + 10) 0 0 8
def bv_f (p i : Nat) (μ : PM) (o : Nat) : PM := pm_wi μ o i (μ.1 p i)
def bv_E (μ : PM) (o p : Nat) : PM := bv_f p 17 (bv_f p 16 (bv_f p 15 (bv_f p 14 (bv_f p 13 (bv_f p 12 μ o) o) o) o) o) o
theorem bv_fx (μ : PM) (o p : Nat) : fX9_become μ o p = (fX7_become (fX10_become (bv_A μ o p) (o + 11) (p + 11)) (o + 16) (p + 16)).bind fun q => some (bv_E q o p) := rfl
theorem bv_Ac {μ : PM} {o p c : Nat} (hc : c < o + 1 ∨ o + 10 < c) : (bv_A μ o p).1 c = μ.1 c := by
  unfold bv_A
  simp (disch := omega) only [cp_c]
theorem bv_Ar {μ : PM} {o p m i : Nat} (hd : p + 168 ≤ o ∨ o + 168 ≤ p) (h1 : 1 ≤ m) (h2 : m ≤ 10) (h3 : i < vz_ln m) : (bv_A μ o p).1 (o + m) i = μ.1 (p + m) i := by
  have : m = 1 ∨ m = 2 ∨ m = 3 ∨ m = 4 ∨ m = 5 ∨ m = 6 ∨ m = 7 ∨ m = 8 ∨ m = 9 ∨ m = 10 := by omega
  unfold bv_A
  rcases this with rfl | rfl | rfl | rfl | rfl | rfl | rfl | rfl | rfl | rfl
  all_goals
    simp only [vz_ln, List.getD_cons_succ, List.getD_cons_zero] at h3
    simp (disch := omega) only [cp_c, cp_in, Nat.zero_add, Nat.sub_zero]
theorem bv_fc {p i : Nat} {μ : PM} {o c : Nat} (h : c ≠ o) : (bv_f p i μ o).1 c = μ.1 c := wi_c h
theorem bv_fe {p i : Nat} {μ : PM} {o : Nat} : (bv_f p i μ o).1 o i = μ.1 p i := wi_e
theorem bv_fi {p i : Nat} {μ : PM} {o j : Nat} (h : j ≠ i) : (bv_f p i μ o).1 o j = μ.1 o j := wi_i h
theorem bv_Ec {μ : PM} {o p c : Nat} (h : c ≠ o) : (bv_E μ o p).1 c = μ.1 c := by
  unfold bv_E
  rw [bv_fc h, bv_fc h, bv_fc h, bv_fc h, bv_fc h, bv_fc h]
theorem bv_Ei {μ : PM} {o p i : Nat} (hd : p ≠ o) (h1 : 12 ≤ i) (h2 : i ≤ 17) : (bv_E μ o p).1 o i = μ.1 p i := by
  have : i = 12 ∨ i = 13 ∨ i = 14 ∨ i = 15 ∨ i = 16 ∨ i = 17 := by omega
  unfold bv_E
  rcases this with rfl | rfl | rfl | rfl | rfl | rfl
  · rw [bv_fi (by omega), bv_fi (by omega), bv_fi (by omega), bv_fi (by omega), bv_fi (by omega), bv_fe]
  · rw [bv_fi (by omega), bv_fi (by omega), bv_fi (by omega), bv_fi (by omega), bv_fe, bv_fc hd]
  · rw [bv_fi (by omega), bv_fi (by omega), bv_fi (by omega), bv_fe, bv_fc hd, bv_fc hd]
  · rw [bv_fi (by omega), bv_fi (by omega), bv_fe, bv_fc hd, bv_fc hd, bv_fc hd]
  · rw [bv_fi (by omega), bv_fe, bv_fc hd, bv_fc hd, bv_fc hd, bv_fc hd]
  · rw [bv_fe, bv_fc hd, bv_fc hd, bv_fc hd, bv_fc hd, bv_fc hd]
/-- a Valley becomes another one -/
theorem bv_main {μ : PM} {o p : Nat} {a : Nat → Int32} (h : VV μ p a) (hd : p + 168 ≤ o ∨ o + 168 ≤ p) : ∃ μ', fX9_become μ o p = some μ' ∧ VV μ' o a ∧ (∀ c, c < o ∨ o + 167 < c → μ'.1 c = μ.1 c) ∧ μ'.2 = μ.2 := by
  obtain ⟨hF, hB, ⟨f, hf, hf1, hS⟩, hO⟩ := h
  have hb := ob_count hO.1
  obtain ⟨C, hC, hC6, hC2⟩ := nz_of (v := a 4) (k := 31) hb.1 (by omega)
  have hCc : μ.1 (p + 16) 2 = nI C := by
    have := hF 4 (by omega)
    rw [show vz_loc 4 = (16, 2) from rfl] at this
    rw [← hC]; exact this
  rw [hC, cl_n (by omega)] at hS
  rw [bv_fx]
  have hW : WR (bv_A μ o p) (p + 11) (vz_cur a) := WR_eq (vz_curW hF hB) (fun c q1 q2 => bv_Ac (by omega)) (fun _ _ => rfl)
  have hW2 := bc_W (o := o + 11) hW (by omega)
  have qc : ∀ c, c < o + 1 ∨ o + 15 < c → (fX10_become (bv_A μ o p) (o + 11) (p + 11)).1 c = μ.1 c := fun c hc => by rw [bc_c (by omega), bv_Ac (by omega)]
  obtain ⟨S, s1, s2, s3, s4, s5, s6⟩ := sb_main (μ := fX10_become (bv_A μ o p) (o + 11) (p + 11)) (o := o) (p := p) (f := f) (C := C) (R := fun i j => a (142 + 54 * i + j)) hd hf (by rw [qc _ (by omega)]; exact hf1) (by rw [qc _ (by omega)]; exact hCc) (by omega) (fun i hi => by
    have hm := Nat.mod_lt (f + i) (show 0 < 30 by decide)
    exact WR_eq (hS i hi) (fun c q1 q2 => qc c (by omega)) (fun _ _ => rfl))
  rw [s1, Option.bind_some]
  have sc : ∀ c, c < o + 1 ∨ o + 167 < c → S.1 c = μ.1 c := fun c hc => by rw [s2 c (by omega), qc c (by omega)]
  refine ⟨_, rfl, ⟨fun k hk => ?_, fun k hk => ?_, ⟨0, by omega, ?_, fun i hi => ?_⟩, hO⟩, fun c hc => ?_, ?_⟩
  · rcases vz_sort k hk with hc | rfl | ⟨c1, c2, c3⟩ | ⟨c1, c2, c3⟩
    · obtain ⟨j, hj, hjk⟩ : ∃ j, j < 24 ∧ (if j < 2 then j else 5 + j) = k := by
        by_cases h2 : k < 2
        · exact ⟨k, by omega, if_pos h2⟩
        · exact ⟨k - 5, by omega, by rw [if_neg (by omega)]; omega⟩
      subst hjk
      rw [vz_wloc j hj]
      have hw := hW2.1 j hj
      have hl : (vz_wl j).1 ≤ 3 := (by decide : ∀ j, j < 24 → (vz_wl j).1 ≤ 3) j hj
      dsimp only
      rw [bv_Ec (by omega), s2 _ (by omega), ← Nat.add_assoc, hw, vz_cur_lo hj]
    · rw [show vz_loc 4 = (16, 2) from rfl]
      dsimp only
      rw [bv_Ec (by omega), s4, hC]
    · have hk2 := hF k hk
      rw [c1, Nat.add_zero] at hk2 ⊢
      rw [← hk2, bv_Ei (by omega) c2 c3, sc p (by omega)]
    · have hk2 := hF k hk
      rw [← hk2, bv_Ec (by omega), s2 _ (by omega), bc_c (by omega), bv_Ar hd c1 c2 c3]
  · have hw := hW2.2 k hk
    rw [bv_Ec (by omega), s2 _ (by omega), show o + 15 = o + 11 + 4 by omega]
    unfold vz_cur at hw
    rw [if_neg (by omega), if_neg (by omega), show 1738 + (24 + k) = 1762 + k by omega] at hw
    exact hw
  · rw [bv_Ec (by omega)]
    exact s3
  · rw [hC, cl_n (by omega)] at hi
    rw [Nat.zero_add, Nat.mod_eq_of_lt (by omega)]
    exact WR_eq (s5 i hi) (fun c q1 q2 => bv_Ec (by omega)) (fun _ _ => rfl)
  · rw [bv_Ec (by omega)]
    exact sc c (by omega)
  · have e : (bv_E S o p).2 = S.2 := rfl
    have e2 : (bv_A μ o p).2 = μ.2 := rfl
    rw [e, s6, bc_2', e2]
theorem cy_main {μ : PM} {a b : Nat} (hab : a ≠ b) : fX12_copy μ a b = some (pm_cp μ a b 0 0 1792) := by
  unfold fX12_copy
  rw [lp_cp (a := a) (b := b) (s := 0) (d := 0) (n := 1792) (g := fun μ' => μ') (fun i μ' hi => ?_) (fun μ' => ?_) (by omega) (by decide)]
  · rfl
  · dsimp only
    unfold lbX12_copy_2
    rw [if_neg (by rw [l_le (n := 1792) (by omega) (by omega)]; omega)]
    simp (disch := omega) only [chk_n, cl_n, go_let, add_l 1, Nat.zero_add]
  · dsimp only
    unfold lbX12_copy_2
    rw [if_pos (by decide)]
theorem VV_a {μ : PM} {q : Nat} {a a' : Nat → Int32} (h : VV μ q a) (he : ∀ k, k < 1792 → a' k = a k) : VV μ q a' := by
  obtain ⟨hF, hB, hS, hO⟩ := h
  have hb := ob_count hO.1
  refine ⟨fun k hk => by rw [he k (by omega)]; exact hF k hk, VB_eq hB (fun _ _ => rfl) (fun k hk => he _ (by omega)), VS_eq hS rfl (fun _ _ _ => rfl) (he 4 (by omega)) (fun k h1 h2 => he k (by omega)) hb.2, ?_⟩
  obtain ⟨h1, h2, h3, h4, h5, h6, h7, h8⟩ := hO
  have hnm := ob_names h1
  have hsc := ob_saidCount h1
  refine ⟨OB_eq h1 (fun k hk => Or.inl (he k (by omega))), WO_eq h2 (fun j hj => ?_), fun n hn => ?_, ?_, fun f hf => ?_, fun i hi => ?_, fun i hi => ?_, fun i hi => ?_⟩
  · rw [vz_cur_lo hj, vz_cur_lo hj, he]
    split <;> omega
  · rw [he 0 (by omega)] at hn
    rw [he _ (by omega)]
    exact h3 n hn
  · rw [he 3 (by omega), he 2 (by omega)]
    exact h4
  · rw [he (112 + f) (by omega), he 0 (by omega), he 1 (by omega)]
    refine ⟨(h5 f hf).1, (h5 f hf).2.1, fun g hg => ?_⟩
    rw [he _ (by omega)]
    exact (h5 f hf).2.2 g hg
  · rw [he 6 (by omega)] at hi
    rw [he _ (by omega), he 0 (by omega)]
    exact h6 i hi
  · rw [he 4 (by omega)] at hi
    rw [he (142 + 54 * i) (by omega), he (142 + 54 * i + 1) (by omega), he 0 (by omega), he 1 (by omega)]
    exact ⟨WO_eq (h7 i hi).1 (fun j hj => he _ (by omega)), (h7 i hi).2⟩
  · rw [he (117 + i) (by omega)]
    exact h8 i hi
theorem c_image : BOTH fX11_image fX12_image := by
  intro μc μm h
  obtain ⟨k1, k2, k3, k4, k5, k6⟩ := id h
  unfold fX11_image fX12_image
  obtain ⟨μc', e1, e2, e3, e4⟩ := bv_main (o := 169) k1 (by omega)
  rw [e1, cy_main (by omega), Option.bind_some, Option.bind_some]
  refine ⟨μc'.1 12 9, μc', pm_cp μm 402 403 0 0 1792, rfl, ?_, ⟨?_, ?_, ?_, RT_eq k4 (e3 0 (by omega)) (e3 371 (by omega)) ⟨by rw [cp_c (by omega)], by rw [cp_c (by omega)], by rw [cp_c (by omega)]⟩ (cp_c (by omega)), ?_, fun t ht h4 => ?_⟩, ⟨fun c hc => e3 c (by omega), e4⟩, fun c hc => cp_c (by omega)⟩
  · rw [cp_c (by omega), e3 12 (by omega), v1_hour k1.1]
  · rw [cp_c (by omega)]
    exact VV_eq k1 (fun c _ _ => e3 c (by omega))
  · exact VV_a e2 (fun k hk => by rw [cp_in (by omega) (by omega), Nat.zero_add, Nat.sub_zero])
  · rw [cp_c (c' := 402) (by omega), cp_in (j := 2) (by omega) (by omega)]
    exact Int.le_refl _
  · rw [cp_c (by omega)]; exact k5
  · rw [cp_c (by omega)] at ht
    exact TXR_eq (k6 t ht h4) (fun c _ _ => e3 c (by omega)) (cp_c (by omega)) h4
theorem c_back : BOTH fX11_back fX12_back := by
  intro μc μm h
  obtain ⟨k1, k2, k3, k4, k5, k6⟩ := id h
  unfold fX11_back fX12_back
  obtain ⟨μc', e1, e2, e3, e4⟩ := bv_main (o := 1) k2 (by omega)
  rw [e1, cy_main (by omega), Option.bind_some, Option.bind_some]
  have ea : ∀ k, k < 1792 → (pm_cp μm 403 402 0 0 1792).1 402 k = μm.1 403 k := fun k hk => by rw [cp_in (by omega) (by omega), Nat.zero_add, Nat.sub_zero]
  refine ⟨μc'.1 12 9, μc', pm_cp μm 403 402 0 0 1792, rfl, ?_, ⟨?_, ?_, ?_, RT_eq k4 (e3 0 (by omega)) (e3 371 (by omega)) ⟨by rw [cp_c (by omega)], by rw [cp_c (by omega)], by rw [cp_c (by omega)]⟩ (cp_c (by omega)), ?_, fun t ht h4 => ?_⟩, ⟨fun c hc => e3 c (by omega), e4⟩, fun c hc => cp_c (by omega)⟩
  · rw [ea 7 (by omega), v1_hour e2.1]
  · exact VV_a e2 ea
  · rw [cp_c (by omega)]
    exact VV_eq k2 (fun c _ _ => e3 c (by omega))
  · rw [cp_c (c' := 403) (by omega), ea 2 (by omega)]
    exact Int.le_refl _
  · rw [cp_c (by omega)]; exact k5
  · rw [ea 2 (by omega)] at ht
    exact TXR_eq (k6 t (by omega) h4) (fun c _ _ => e3 c (by omega)) (cp_c (by omega)) h4
