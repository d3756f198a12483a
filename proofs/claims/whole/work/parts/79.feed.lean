/-! ===== bits one by one (the first rows out of kit/laws/BITS.to-paste); the tape ===== -/
def bt (x : Int32) (i : Nat) : Bool := x.toBitVec.getLsbD i
theorem b_ext {x y : Int32} (h : ∀ i, i < 32 → bt x i = bt y i) : x = y := Int32.toBitVec_inj.mp (BitVec.eq_of_getLsbD_eq (fun i hi => h i hi))
theorem b_and (x y : Int32) (i : Nat) : bt (x &&& y) i = (bt x i && bt y i) := by unfold bt; rw [Int32.toBitVec_and, BitVec.getLsbD_and]
theorem b_255 : ∀ i, i < 32 → bt 255 i = decide (i < 8) := by decide +kernel
theorem s_u : ∀ n, n < 32 → (((nI n).toUInt32 &&& Int32.toUInt32 31).toBitVec % 32).toNat = n := by decide +kernel
theorem b_ushr (n : Nat) (hn : n < 32) (x : Int32) (i : Nat) : bt ((x.toUInt32 >>> ((nI n).toUInt32 &&& Int32.toUInt32 31)).toInt32) i = bt x (n + i) := by
  show (x.toUInt32 >>> ((nI n).toUInt32 &&& Int32.toUInt32 31)).toBitVec.getLsbD i = x.toUInt32.toBitVec.getLsbD (n + i)
  rw [UInt32.toBitVec_shiftRight]
  show (x.toUInt32.toBitVec >>> (((nI n).toUInt32 &&& Int32.toUInt32 31).toBitVec % 32).toNat).getLsbD i = _
  rw [s_u n hn, BitVec.getLsbD_ushiftRight]
theorem b_sshr (n : Nat) (hn : n < 32) (x : Int32) {i : Nat} (hi : i < 32) : bt (x >>> (nI n &&& 31)) i = if n + i < 32 then bt x (n + i) else bt x 31 := by
  unfold bt
  rw [Int32.toBitVec_shiftRight]
  show (x.toBitVec.sshiftRight ((nI n &&& 31).toBitVec.smod 32).toNat).getLsbD i = _
  rw [nb_sml n hn, BitVec.getLsbD_sshiftRight, BitVec.msb_eq_getLsbD_last]
  simp [hi]
/-- a byte of a number: cut out by either shift -/
theorem q_byte (x : Int32) (n : Nat) (hn : n ≤ 24) : (jushr x (nI n) &&& 255) = ((x >>> (nI n &&& 31)) &&& 255) := by
  refine b_ext (fun i hi => ?_)
  unfold jushr
  rw [b_and, b_and, b_ushr n (by omega), b_sshr n (by omega) x hi, b_255 i hi]
  by_cases h : i < 8
  · rw [if_pos (by omega)]
  · simp [h]
theorem q_byte_le (x : Int32) : 0 ≤ (x &&& 255).toInt ∧ (x &&& 255).toInt ≤ 255 := by
  obtain ⟨j, hj, e⟩ := pk_andE x (m := 255) 8 (by decide)
  rw [e, ti_n (by omega)]
  omega
theorem tp_step {μc μm : PM} (h : RR μc μm) {B : Nat} {x : Int32} (hB : μm.1 401 4 = nI B) (h3 : B < 300) (hx : 0 ≤ x.toInt ∧ x.toInt ≤ 255) : RR (pm_wi (pm_wi μc 371 B x) 0 13 (nI (B + 1))) (pm_wi (pm_wi μm 405 B x) 401 4 (nI (B + 1))) := by
  obtain ⟨k1, k2, k3, ⟨t1, t2, t3, t4, t5⟩, k5, k6⟩ := h
  refine ⟨VV_eq k1 (fun c _ _ => by rw [wi_c (by omega), wi_c (by omega)]), VV_eq k2 (fun c _ _ => by rw [wi_c (by omega), wi_c (by omega)]), k3, ⟨?_, ?_, fun k hk => ?_, fun k hk => ?_, ?_⟩, ?_, fun t ht h4 => ?_⟩
  · rw [wi_e, wi_e]
  · rw [wi_e, ti_n (by omega)]
    omega
  · rw [wi_c (c' := 371) (c := 0) (by omega), wi_c (c' := 405) (c := 401) (by omega), wi_r, wi_r]
    by_cases e : k = B
    · rw [if_pos ⟨rfl, e⟩, if_pos ⟨rfl, e⟩]
    · rw [if_neg (fun q => e q.2), if_neg (fun q => e q.2)]
      exact t3 k hk
  · rw [wi_c (by omega), wi_r]
    by_cases e : k = B
    · rw [if_pos ⟨rfl, e⟩]; exact hx
    · rw [if_neg (fun q => e q.2)]
      exact t4 k hk
  · simp (disch := omega) only [wi_i, wi_c]
    exact t5
  · simp (disch := omega) only [wi_i, wi_c]
    exact k5
  · exact TXR_eq (k6 t ht h4) (fun c _ _ => by rw [wi_c (by omega), wi_c (by omega)]) (by rw [wi_c (by omega), wi_c (by omega)]) h4
theorem tp_four {μc μm : PM} (h : RR μc μm) (v : Int32) {B : Nat} (hB : μm.1 401 4 = nI B) (h3 : B + 4 ≤ 300) : ∃ μc' μm', fX11_putFour μc v = some μc' ∧ fX12_four μm v = some μm' ∧ RR μc' μm' ∧ FrC μc μc' ∧ FrM μm μm' ∧ μm'.1 401 4 = nI (B + 4) := by
  have st : ∀ (n : Nat) (μc μm : PM) (B : Nat), n ≤ 24 → RR μc μm → μm.1 401 4 = nI B → B < 300 → ∃ μc' μm', lbX11_putFour_3 v (nI n) μc = some (.inl (nI n + (-8), μc')) ∧ lbX12_four_3 v (nI n) μm = some (.inl (nI n + (-8), μm')) ∧ RR μc' μm' ∧ FrC μc μc' ∧ FrM μm μm' ∧ μm'.1 401 4 = nI (B + 1) := by
    intro n μc μm B hn h hB h3
    have hBc : μc.1 0 13 = nI B := h.2.2.2.1.1.trans hB
    unfold lbX11_putFour_3 lbX12_four_3
    rw [if_neg (show ¬ nI n < 0 from nI_pos (by omega)), if_neg (show ¬ nI n < 0 from nI_pos (by omega)), hBc, hB, if_neg (show ¬ nI B < 0 from nI_pos (by omega)), if_neg (by rw [l_le (n := 300) (by omega) (by omega)]; omega)]
    simp (disch := omega) only [chk_n, cl_n, go_let, wi_c, hB, hBc, add_l 1]
    rw [q_byte v n hn]
    refine ⟨_, _, rfl, rfl, tp_step h hB h3 (q_byte_le _), ⟨fun c hc => ?_, rfl⟩, fun c hc => ?_, wi_e⟩
    · rw [wi_c (by omega), wi_c (by omega)]
    · rw [wi_c (by omega), wi_c (by omega)]
  obtain ⟨c1, m1, a1, b1, r1, f1, g1, e1⟩ := st 24 μc μm B (by omega) h hB (by omega)
  obtain ⟨c2, m2, a2, b2, r2, f2, g2, e2⟩ := st 16 c1 m1 (B + 1) (by omega) r1 e1 (by omega)
  obtain ⟨c3, m3, a3, b3, r3, f3, g3, e3⟩ := st 8 c2 m2 (B + 2) (by omega) r2 e2 (by omega)
  obtain ⟨c4, m4, a4, b4, r4, f4, g4, e4⟩ := st 0 c3 m3 (B + 3) (by omega) r3 e3 (by omega)
  refine ⟨c4, m4, ?_, ?_, r4, ((f1.tr f2).tr f3).tr f4, ((g1.tr g2).tr g3).tr g4, e4⟩
  · unfold fX11_putFour
    have : lp (fun s : Int32 × PM => lbX11_putFour_3 v s.1 s.2) (99995 + 1 + 1 + 1 + 1 + 1) (24, μc) = some c4 := by
      rw [lp_l (s' := (16, c1)) a1, lp_l (s' := (8, c2)) a2, lp_l (s' := (0, c3)) a3, lp_l (s' := (-8, c4)) a4]
      exact lp_e (if_pos (show (-8 : Int32) < 0 by decide))
    show (lp (fun s : Int32 × PM => lbX11_putFour_3 v s.1 s.2) (99995 + 1 + 1 + 1 + 1 + 1) (24, μc)).bind _ = _
    rw [this]
    rfl
  · unfold fX12_four
    have : lp (fun s : Int32 × PM => lbX12_four_3 v s.1 s.2) (99995 + 1 + 1 + 1 + 1 + 1) (24, μm) = some m4 := by
      rw [lp_l (s' := (16, m1)) b1, lp_l (s' := (8, m2)) b2, lp_l (s' := (0, m3)) b3, lp_l (s' := (-8, m4)) b4]
      exact lp_e (if_pos (show (-8 : Int32) < 0 by decide))
    show (lp (fun s : Int32 × PM => lbX12_four_3 v s.1 s.2) (99995 + 1 + 1 + 1 + 1 + 1) (24, μm)).bind _ = _
    rw [this]
    rfl
theorem c_feed (a b c d e : Int32) : BOTH (fun μ => fX11_feed μ a b c d e) (fun μ => fX12_feed μ a b c d e) := by
  intro μc μm h
  dsimp only
  obtain ⟨B, hB, hB3, hB2⟩ := nz_of (v := μm.1 401 4) (k := 301) h.2.2.2.1.2.1.1 (by have := h.2.2.2.1.2.1.2; omega)
  have hBc : μc.1 0 13 = nI B := h.2.2.2.1.1.trans hB
  unfold fX11_feed fX12_feed
  rw [hBc, hB, add_l 20]
  by_cases hc : B + 20 ≤ 300
  · have hle : nI (B + 20) ≤ 300 := by rw [le_l (n := 300) (by omega) (by omega)]; exact hc
    simp only [if_pos hle]
    obtain ⟨c1, m1, a1, b1, r1, f1, g1, e1⟩ := tp_four h a hB (by omega)
    obtain ⟨c2, m2, a2, b2, r2, f2, g2, e2⟩ := tp_four r1 b e1 (by omega)
    obtain ⟨c3, m3, a3, b3, r3, f3, g3, e3⟩ := tp_four r2 c e2 (by omega)
    obtain ⟨c4, m4, a4, b4, r4, f4, g4, e4⟩ := tp_four r3 d e3 (by omega)
    obtain ⟨c5, m5, a5, b5, r5, f5, g5, e5⟩ := tp_four r4 e e4 (by omega)
    rw [a1, b1, Option.bind_some, Option.bind_some, a2, b2, Option.bind_some, Option.bind_some, a3, b3, Option.bind_some, Option.bind_some, a4, b4, Option.bind_some, Option.bind_some, a5, b5, Option.bind_some, Option.bind_some]
    exact ⟨m5.1 401 4, c5, m5, by rw [r5.2.2.2.1.1], rfl, r5, (((f1.tr f2).tr f3).tr f4).tr f5, (((g1.tr g2).tr g3).tr g4).tr g5⟩
  · have hle : ¬ nI (B + 20) ≤ 300 := by rw [le_l (n := 300) (by omega) (by omega)]; exact hc
    simp only [if_neg hle]
    exact ⟨-1, μc, μm, rfl, rfl, h, FrC.rfl' _, FrM.rfl' _⟩
/-! who has it -/
theorem q_owner {μ : PM} {a : Nat → Int32} (hF : VF μ 1 a) {F c : Nat} (hf : a 1 = nI F) (h5 : F ≤ 5) (v : Int32) : (∃ f, f < F ∧ μ.1 c f = v ∧ (∀ g, g < f → μ.1 c g ≠ v) ∧ fX4_ownerOf μ c v = some (nI f)) ∨ ((∀ f, f < F → μ.1 c f ≠ v) ∧ fX4_ownerOf μ c v = some (-1)) := by
  have hFc : μ.1 12 6 = nI F := by rw [v1_families hF]; exact hf
  have step : ∀ s : Int32, (∃ i, i ≤ F ∧ s = nI i ∧ ∀ g, g < i → μ.1 c g ≠ v) → (∃ s', lbX4_ownerOf_2 μ c v s = some (.inl s') ∧ (∃ i, i ≤ F ∧ s' = nI i ∧ ∀ g, g < i → μ.1 c g ≠ v) ∧ F - s'.toNatClampNeg < F - s.toNatClampNeg) ∨ (∃ r, lbX4_ownerOf_2 μ c v s = some (.inr r) ∧ ((∃ f, f < F ∧ μ.1 c f = v ∧ (∀ g, g < f → μ.1 c g ≠ v) ∧ r = nI f) ∨ ((∀ f, f < F → μ.1 c f ≠ v) ∧ r = -1))) := by
    rintro s ⟨i, hi, rfl, hg⟩
    unfold lbX4_ownerOf_2
    rw [hFc]
    by_cases hiF : i = F
    · subst hiF
      right
      rw [if_pos (by rw [le_n (by omega) (by omega)]; omega)]
      exact ⟨_, rfl, Or.inr ⟨hg, rfl⟩⟩
    · rw [if_neg (by rw [le_n (by omega) (by omega)]; omega), if_neg (by rw [l_le (n := 5) (by omega) (by omega)]; omega)]
      simp (disch := omega) only [chk_n, cl_n, add_l 1]
      by_cases hc : μ.1 c i = v
      · right
        rw [if_pos hc]
        exact ⟨_, rfl, Or.inl ⟨i, by omega, hc, hg, rfl⟩⟩
      · left
        rw [if_neg hc]
        refine ⟨_, rfl, ⟨i + 1, by omega, rfl, fun g hg2 => ?_⟩, ?_⟩
        · by_cases e : g = i
          · rw [e]; exact hc
          · exact hg g (by omega)
        · rw [cl_n (by omega)]; omega
  obtain ⟨r, h1, h2⟩ := lp_inv (f := fun s : Int32 => lbX4_ownerOf_2 μ c v s) _ (fun s => F - s.toNatClampNeg) _ step go_fuel 0 ⟨0, by omega, rfl, fun g hg => by omega⟩ (by unfold go_fuel; omega)
  unfold fX4_ownerOf
  rw [h1]
  rcases h2 with ⟨f, k1, k2, k3, rfl⟩ | ⟨k1, rfl⟩
  · exact Or.inl ⟨f, k1, k2, k3, rfl⟩
  · exact Or.inr ⟨k1, rfl⟩
theorem OA_given {a : Nat → Int32} {F : Nat} {v : Int32} (h : OA a) (hF5 : F < 5) (hF : (F : Int) < (a 1).toInt) (hv : -1 ≤ v.toInt ∧ v.toInt < (a 0).toInt) (hu : ∀ g, g < 5 → g ≠ F → a (112 + g) = v → v = -1) : OA (upd a (112 + F) v) := by
  obtain ⟨h1, h2, h3, h4, h5, h6, h7, h8⟩ := h
  have u : ∀ j, j ≠ 112 + F → upd a (112 + F) v j = a j := fun j hj => upd_n hj
  have hnm := ob_names h1
  have hsc := ob_saidCount h1
  refine ⟨OB_set h1 ?_, WO_eq h2 (fun j hj => ?_), fun n hn => ?_, ?_, fun f hf => ?_, fun i hi => ?_, fun i hi => ?_, fun i hi => ?_⟩
  · rw [(vb_given F hF5).1, (vb_given F hF5).2]
    omega
  · rw [vz_cur_lo hj, vz_cur_lo hj, u]
    split <;> omega
  · rw [u 0 (by omega)] at hn
    rw [u _ (by omega)]
    exact h3 n hn
  · rw [u 3 (by omega), u 2 (by omega)]
    exact h4
  · rw [u 0 (by omega), u 1 (by omega)]
    by_cases e : f = F
    · subst e
      rw [upd_e]
      refine ⟨hv.2, fun q => by omega, fun g hg q => ?_⟩
      by_cases e2 : g = f
      · exact Or.inr e2.symm
      · rw [u _ (by omega)] at q
        exact Or.inl (hu g hg e2 q.symm)
    · rw [u (112 + f) (by omega)]
      refine ⟨(h5 f hf).1, (h5 f hf).2.1, fun g hg q => ?_⟩
      by_cases e2 : g = F
      · subst e2
        rw [upd_e] at q
        exact Or.inl (q.trans (hu f hf e q))
      · rw [u _ (by omega)] at q
        exact (h5 f hf).2.2 g hg q
  · rw [u 6 (by omega)] at hi
    rw [u _ (by omega), u 0 (by omega)]
    exact h6 i hi
  · rw [u 4 (by omega)] at hi
    have := ob_count h1
    rw [u (142 + 54 * i) (by omega), u (142 + 54 * i + 1) (by omega), u 0 (by omega), u 1 (by omega)]
    exact ⟨WO_eq (h7 i hi).1 (fun j hj => u _ (by omega)), (h7 i hi).2⟩
  · rw [u (117 + i) (by omega)]
    exact h8 i hi
theorem q_giveM {μ : PM} {F : Nat} (hF : F < 5) (v : Int32) : ((v ≠ -1 ∧ ∃ g, g < 5 ∧ g ≠ F ∧ μ.1 402 (112 + g) = v) ∧ jjX12_give_23 μ (nI F) v = some (0, μ)) ∨ ((v = -1 ∨ ∀ g, g < 5 → g ≠ F → μ.1 402 (112 + g) ≠ v) ∧ jjX12_give_23 μ (nI F) v = some (1, pm_wi μ 402 (112 + F) v)) := by
  have step : ∀ s : Int32, (∃ i, i ≤ 5 ∧ s = nI i ∧ (v = -1 ∨ ∀ g, g < i → g ≠ F → μ.1 402 (112 + g) ≠ v)) → (∃ s', lbX12_give_25 μ (nI F) v s = some (.inl s') ∧ (∃ i, i ≤ 5 ∧ s' = nI i ∧ (v = -1 ∨ ∀ g, g < i → g ≠ F → μ.1 402 (112 + g) ≠ v)) ∧ 5 - s'.toNatClampNeg < 5 - s.toNatClampNeg) ∨ (∃ r, lbX12_give_25 μ (nI F) v s = some (.inr r) ∧ (((v ≠ -1 ∧ ∃ g, g < 5 ∧ g ≠ F ∧ μ.1 402 (112 + g) = v) ∧ r = .inr (0, μ)) ∨ ((v = -1 ∨ ∀ g, g < 5 → g ≠ F → μ.1 402 (112 + g) ≠ v) ∧ r = .inl ()))) := by
    rintro s ⟨i, hi, rfl, hg⟩
    unfold lbX12_give_25
    by_cases h5 : i = 5
    · subst h5
      right
      rw [if_pos (by decide)]
      exact ⟨_, rfl, Or.inr ⟨hg, rfl⟩⟩
    rw [if_neg (by rw [l_le (n := 5) (by omega) (by omega)]; omega)]
    have fin : 5 - (nI (i + 1)).toNatClampNeg < 5 - (nI i).toNatClampNeg := by rw [cl_n (by omega), cl_n (by omega)]; omega
    by_cases hiF : i = F
    · subst hiF
      left
      rw [if_pos rfl, add_l 1]
      exact ⟨_, rfl, ⟨i + 1, by omega, rfl, hg.imp id (fun q g h1 h2 => q g (by omega) h2)⟩, fin⟩
    rw [if_neg (by rw [eq_n (by omega) (by omega)]; exact hiF)]
    by_cases hv : v = -1
    · left
      rw [if_pos hv, add_l 1]
      exact ⟨_, rfl, ⟨i + 1, by omega, rfl, Or.inl hv⟩, fin⟩
    rw [if_neg hv]
    simp (disch := omega) only [l_add 112, chk_n, cl_n, add_l 1]
    by_cases hc : μ.1 402 (112 + i) = v
    · right
      rw [if_pos hc]
      exact ⟨_, rfl, Or.inl ⟨⟨hv, i, by omega, hiF, hc⟩, rfl⟩⟩
    · left
      rw [if_neg hc]
      refine ⟨_, rfl, ⟨i + 1, by omega, rfl, Or.inr (fun g h1 h2 => ?_)⟩, by rw [cl_n (by omega)]; omega⟩
      by_cases e : g = i
      · rw [e]; exact hc
      · rcases hg with hg | hg
        · exact absurd hg hv
        · exact hg g (by omega) h2
  obtain ⟨r, h1, h2⟩ := lp_inv (f := fun s : Int32 => lbX12_give_25 μ (nI F) v s) _ (fun s => 5 - s.toNatClampNeg) _ step go_fuel 0 ⟨0, by omega, rfl, Or.inr (fun g hg => by omega)⟩ (by unfold go_fuel; omega)
  unfold jjX12_give_23
  rw [h1, Option.bind_some]
  rcases h2 with ⟨k1, rfl⟩ | ⟨k1, rfl⟩
  · exact Or.inl ⟨k1, rfl⟩
  · refine Or.inr ⟨k1, ?_⟩
    simp only [go_cs]
    simp (disch := omega) only [l_add 112, chk_n, cl_n, go_let]
theorem c_give (f n : Int32) : BOTH (fun μ => fX11_give μ f n) (fun μ => fX12_give μ f n) := by
  intro μc μm h
  have hV := h.1
  have hOA := hV.2.2.2
  have hO := hOA.1
  have hfb := ob_families hO
  have hnb := ob_names hO
  have h5 := hOA.2.2.2.2.1
  dsimp only
  unfold fX11_give fX12_give
  rw [q_famC hV.1 hO, q_famM hO, q_nameC hV.1 hO, q_nameM hO, q_ite, q_ite, q_ite, q_ite]
  by_cases hf : 0 ≤ f.toInt ∧ f.toInt < (μm.1 402 1).toInt
  case neg =>
    simp only [if_neg hf]
    exact ⟨0, μc, μm, rfl, rfl, h, FrC.rfl' _, FrM.rfl' _⟩
  simp only [if_pos hf]
  obtain ⟨G, hG, hG6, hG2⟩ := nz_of (v := μm.1 402 1) (k := 6) hfb.1 (by omega)
  obtain ⟨F, rfl, hF, hF2⟩ := nz_of (v := f) (k := 5) hf.1 (by omega)
  have wr : (-1 ≤ n.toInt ∧ n.toInt < (μm.1 402 0).toInt) → (n = -1 ∨ ∀ g, g < 5 → g ≠ F → μm.1 402 (112 + g) ≠ n) → ∃ r μc' μm', jjX11_give_53 μc (nI F) n = some (r, μc') ∧ jjX12_give_23 μm (nI F) n = some (r, μm') ∧ RR μc' μm' ∧ FrC μc μc' ∧ FrM μm μm' := fun hb hu => by
    rcases q_giveM (μ := μm) (F := F) (by omega) n with ⟨⟨q1, g, q2, q3, q4⟩, -⟩ | ⟨-, e⟩
    · rcases hu with hu | hu
      · exact absurd hu q1
      · exact absurd q4 (hu g q2 q3)
    · rw [e]
      unfold jjX11_give_53
      simp (disch := omega) only [chk_n, cl_n, go_let]
      refine ⟨_, _, _, rfl, rfl, RR_of h ((EC.rfl' _).wi (by omega)) ((EM.rfl' _).wi (by omega)) ?_ ?_⟩
      · rw [wi_u]
        refine (VZ_w (v := n) hV.z (k := 112 + F) (by omega) (by omega) (vl_given F (by omega))).v (OA_given hOA (by omega) (by omega) hb (fun g h1 h2 h3 => ?_))
        rcases hu with hu | hu
        · exact hu
        · exact absurd h3 (hu g h1 h2)
      · simp (disch := omega) only [wi_i]
  by_cases hn1 : n = -1
  · simp only [if_pos hn1]
    have e : n.toInt = -1 := by rw [hn1]; rfl
    exact wr (by omega) (Or.inl hn1)
  simp only [if_neg hn1]
  by_cases hn : 0 ≤ n.toInt ∧ n.toInt < (μm.1 402 0).toInt
  case neg =>
    simp only [if_neg hn]
    exact ⟨0, μc, μm, rfl, rfl, h, FrC.rfl' _, FrM.rfl' _⟩
  simp only [if_pos hn]
  have gv : ∀ g, g < 5 → μc.1 8 g = μm.1 402 (112 + g) := fun g hg => v1_given hV.1 hg
  have none_hi : ∀ g, g < 5 → μm.1 402 (112 + g) = n → g < G := fun g hg q => by
    by_cases hlt : g < G
    · exact hlt
    · exact absurd (q.symm.trans ((h5 g hg).2.1 (by omega))) hn1
  rcases q_owner hV.1 (c := 8) hG (by omega) n with ⟨g, g1, g2, g3, g4⟩ | ⟨g1, g4⟩
  · rw [g4, Option.bind_some, if_neg (by rw [neg1_ne (by omega)]; exact id)]
    rw [gv g (by omega)] at g2
    by_cases e : g = F
    · subst e
      rw [if_pos rfl]
      refine wr (by omega) (Or.inr (fun g' h1 h2 h3 => ?_))
      rcases (h5 g (by omega)).2.2 g' h1 (g2.trans h3.symm) with q | q
      · exact hn1 (g2.symm.trans q)
      · exact h2 q.symm
    · rw [if_neg (by rw [eq_n (by omega) (by omega)]; exact e)]
      rcases q_giveM (μ := μm) (F := F) (by omega) n with ⟨-, e2⟩ | ⟨q1, -⟩
      · exact ⟨0, μc, μm, rfl, e2, h, FrC.rfl' _, FrM.rfl' _⟩
      · rcases q1 with q1 | q1
        · exact absurd q1 hn1
        · exact absurd g2 (q1 g (by omega) e)
  · rw [g4, Option.bind_some, if_pos rfl]
    refine wr (by omega) (Or.inr (fun g h1 h2 h3 => ?_))
    have := g1 g (none_hi g h1 h3)
    rw [gv g h1] at this
    exact this h3
