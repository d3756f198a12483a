/-! ===== melts, breaks, claims: both say the same ===== -/
def LC (μ μ' : PM) : Prop := (∀ c, c ≠ 384 → c ≠ 385 → μ'.1 c = μ.1 c) ∧ μ'.2 = μ.2
def LM (μ μ' : PM) : Prop := ∀ c, c ≠ 407 → c ≠ 409 → μ'.1 c = μ.1 c
theorem LC.rfl' (μ : PM) : LC μ μ := ⟨fun _ _ _ => rfl, rfl⟩
theorem LM.rfl' (μ : PM) : LM μ μ := fun _ _ _ => rfl
theorem LC.tr {a b c : PM} (h : LC a b) (h2 : LC b c) : LC a c := ⟨fun x k1 k2 => (h2.1 x k1 k2).trans (h.1 x k1 k2), h2.2.trans h.2⟩
theorem LM.tr {a b c : PM} (h : LM a b) (h2 : LM b c) : LM a c := fun x k1 k2 => (h2 x k1 k2).trans (h x k1 k2)
theorem LC.ph {bk xk : Bool} {o : Nat} {μc μm μc' : PM} (h : LC μc μc') (hP : PH bk xk o μc μm) (ho : PO o) : PH bk xk o μc' μm := PH_c hP ho (fun c hc => h.1 c (by omega) (by omega))
theorem LM.ph {bk xk : Bool} {o : Nat} {μc μm μm' : PM} (h : LM μm μm') (hP : PH bk xk o μc μm) : PH bk xk o μc μm' := PH_m hP (h 402 (by omega) (by omega)) (h 404 (by omega) (by omega)) (by rw [h 401 (by omega) (by omega)])
theorem q_learn (μ : PM) {o n : Nat} (v : Int32) (ho : PO o) (hn : n < 6) : ∃ μ', fX2_learn μ o (nI n) v = some μ' ∧ (μ'.1 384 0 = μ.1 o 9 ∧ μ'.1 384 1 = μ.1 o 8 ∧ μ'.1 384 2 = μ.1 3 n ∧ μ'.1 384 3 = μ.1 (o + 2) n ∧ μ'.1 384 4 = nI n ∧ μ'.1 384 5 = μ.1 2 n ∧ μ'.1 384 6 = v) ∧ LC μ μ' := by
  have ho1 : o ≠ 384 ∧ o + 2 ≠ 384 := by rcases ho with rfl | rfl <;> omega
  unfold fX2_learn
  rw [if_neg (nI_pos (by omega)), if_pos (by rw [lt_l (n := 6) (by omega) (by omega)]; exact hn)]
  simp only [go_let]
  rw [chk_n hn (by omega), chk_n hn (by omega), chk_n hn (by omega), cl_n (by omega)]
  refine ⟨_, rfl, ⟨?_, ?_, ?_, ?_, ?_, ?_, ?_⟩, fun c hc _ => ?_, rfl⟩
  · simp [wi_r, ho1.1, ho1.2]
  · simp [wi_r, ho1.1, ho1.2]
  · simp [wi_r, ho1.1, ho1.2]
  · simp [wi_r, ho1.1, ho1.2]
  · simp [wi_r]
  · simp [wi_r]
  · simp [wi_r]
  · rw [wi_c hc, wi_c hc, wi_c hc, wi_c hc, wi_c hc, wi_c hc, wi_c hc]
theorem q_lay (μ : PM) {n : Nat} (v : Int32) (hn : n < 6) : ∃ μ', fX12_layNamed μ (nI n) v = some μ' ∧ (μ'.1 407 0 = μ.1 402 7 ∧ μ'.1 407 1 = μ.1 402 9 ∧ μ'.1 407 2 = μ.1 402 (36 + n) ∧ μ'.1 407 3 = μ.1 402 (13 + 2 * n) ∧ μ'.1 407 4 = nI n ∧ μ'.1 407 5 = μ.1 402 (30 + n) ∧ μ'.1 407 6 = v) ∧ LM μ μ' := by
  have i1 : 36 + nI n = nI (36 + n) := l_add 36 n
  have i2 : 30 + nI n = nI (30 + n) := l_add 30 n
  have i3 : 12 + 2 * nI n + 1 = nI (13 + 2 * n) := by rw [l_mul 2, l_add 12, add_l 1]; congr 1; omega
  unfold fX12_layNamed fX12_get
  simp only [go_let]
  rw [i1, i2, i3, chk_n (show 36 + n < 1792 by omega) (by omega), chk_n (show 13 + 2 * n < 1792 by omega) (by omega), Option.bind_some, chk_n (show 30 + n < 1792 by omega) (by omega), cl_n (show 36 + n < 2147483648 by omega), cl_n (show 13 + 2 * n < 2147483648 by omega), cl_n (show 30 + n < 2147483648 by omega)]
  refine ⟨_, rfl, ⟨?_, ?_, ?_, ?_, ?_, ?_, ?_⟩, fun c hc _ => ?_⟩
  · simp [wi_r]
  · simp [wi_r]
  · simp [wi_r]
  · simp [wi_r]
  · simp [wi_r]
  · simp [wi_r]
  · simp [wi_r]
  · rw [wi_c hc, wi_c hc, wi_c hc, wi_c hc, wi_c hc, wi_c hc, wi_c hc]
def TA (μm : PM) (tx : Option Nat) (t : Int32) : Prop := (tx = none ∧ t = -1) ∨ ∃ k : Nat, k < 4 ∧ (k : Int) < (μm.1 402 2).toInt ∧ tx = some (343 + 7 * k) ∧ t = nI k
theorem says_neg {μ : PM} {s wo lo hi : Int32} : fX12_says μ (-1) s wo lo hi = some (wo, μ) := by
  unfold fX12_says
  have : lp (fun q => lbX12_says_3 μ (-1) s wo lo hi q) go_fuel 0 = some (.inr (wo, μ)) := by
    show lp _ (99999 + 1) _ = _
    refine lp_e ?_
    unfold lbX12_says_3
    rw [if_pos (by decide)]
  rw [this]
  rfl
theorem q_hasLaw {μ : PM} {t s : Nat} (hs : s < 3) : fX8_hasLaw μ (343 + 7 * t) (nI s) = some (if μ.1 (347 + 7 * t) s = -1 then 0 else 1) := by
  unfold fX8_hasLaw
  rw [if_neg (nI_pos (by omega)), if_neg (by rw [l_le (n := 3) (by omega) (by omega)]; omega), chk_n hs (by omega), cl_n (by omega), show 343 + 7 * t + 4 = 347 + 7 * t by omega]
  split <;> rfl
/-- what is known to both is the same -/
theorem ph_known {bk xk : Bool} {o n : Nat} {μc μm μc1 μm1 : PM} {v : Int32} (h : PH bk xk o μc μm) (hn : n < 6) (hv : 0 ≤ v.toInt ∧ v.toInt ≤ 9) (hc : μc1.1 384 0 = μc.1 o 9 ∧ μc1.1 384 1 = μc.1 o 8 ∧ μc1.1 384 2 = μc.1 3 n ∧ μc1.1 384 3 = μc.1 (o + 2) n ∧ μc1.1 384 4 = nI n ∧ μc1.1 384 5 = μc.1 2 n ∧ μc1.1 384 6 = v)
    (hm : μm1.1 407 0 = μm.1 402 7 ∧ μm1.1 407 1 = μm.1 402 9 ∧ μm1.1 407 2 = μm.1 402 (36 + n) ∧ μm1.1 407 3 = μm.1 402 (13 + 2 * n) ∧ μm1.1 407 4 = nI n ∧ μm1.1 407 5 = μm.1 402 (30 + n) ∧ μm1.1 407 6 = v) :
    ∀ j, j < 7 → μc1.1 384 j = μm1.1 407 j ∧ -1000000 ≤ (μm1.1 407 j).toInt ∧ (μm1.1 407 j).toInt ≤ 1000000 := by
  obtain ⟨c0, c1, c2, c3, c4, c5, c6⟩ := hc
  obtain ⟨m0, m1, m2, m3, m4, m5, m6⟩ := hm
  have hb := ph_ob h
  intro j hj
  match j, hj with
  | 0, _ => rw [c0, m0, ph_hour h]; have := ob_hour hb; exact ⟨rfl, by omega, by omega⟩
  | 1, _ => rw [c1, m1, ph_warm h]; have := ob_warm hb; exact ⟨rfl, by omega, by omega⟩
  | 2, _ => rw [c2, m2, ph_layer h hn]; have := ob_layer hb hn; exact ⟨rfl, by omega, by omega⟩
  | 3, _ => rw [c3, m3, ph_size h hn]; have := ob_size hb hn; exact ⟨rfl, by omega, by omega⟩
  | 4, _ => rw [c4, m4, ti_n (by omega)]; exact ⟨rfl, by omega, by omega⟩
  | 5, _ => rw [c5, m5, ph_sounds h hn]; have := ob_sounds hb hn; exact ⟨rfl, by omega, by omega⟩
  | 6, _ => rw [c6, m6]; exact ⟨rfl, by omega, by omega⟩
  | j + 7, h => omega
theorem ph_melts {bk xk : Bool} {o n : Nat} {μc μm : PM} (h : PH bk xk o μc μm) (ho : PO o) (hn : n < 6) {tx : Option Nat} {t : Int32} (hT : TA μm tx t) : ∃ r μc' μm', fX2_askMelts μc tx o (nI n) = some (r, μc') ∧ fX12_meltsOf μm t (nI n) = some (r, μm') ∧ PH bk xk o μc' μm' ∧ LC μc μc' ∧ LM μm μm' := by
  obtain ⟨μ1, l1, l2, l3⟩ := q_lay μm (n := n) 0 hn
  have hP1 := l3.ph h
  have i1 : 36 + nI n = nI (36 + n) := l_add 36 n
  have eM : ∀ t : Int32, fX12_meltsOf μm t (nI n) = (fX12_says μ1 t 0 ((μ1.1 402 9) - (μ1.1 402 (36 + n))) (-99) 99).bind fun q3 => some ((q3.1, q3.2)) := fun t => by
    unfold fX12_meltsOf
    rw [l1, Option.bind_some, i1, chk_n (by omega) (by omega), cl_n (by omega)]
  have eC : ∀ μ tx, jjX2_askMelts_24 μ tx o (nI n) = some ((μ.1 o 8) - (μ.1 3 n), μ) := fun μ tx => by
    unfold jjX2_askMelts_24
    rw [chk_n hn (by omega), cl_n (by omega)]
  have eW : μc.1 o 8 - μc.1 3 n = μ1.1 402 9 - μ1.1 402 (36 + n) := by rw [ph_warm hP1, ph_layer hP1 hn]
  unfold fX2_askMelts
  rw [if_neg (nI_pos (by omega)), if_pos (by rw [lt_l (n := 6) (by omega) (by omega)]; exact hn)]
  rcases hT with ⟨rfl, rfl⟩ | ⟨k, hk, hk2, rfl, rfl⟩
  · refine ⟨_, μc, μ1, eC _ none, ?_, hP1, LC.rfl' _, l3⟩
    rw [eM, says_neg, Option.bind_some, eW]
  · show ∃ r μc' μm', ((fX8_hasLaw μc (343 + 7 * k) 0).bind fun q3 => (if q3 = 0 then jjX2_askMelts_24 μc (some (343 + 7 * k)) o (nI n) else (fX2_learn μc o (nI n) 0).bind fun q4 => (fX2_run q4 (343 + 7 * k) 0 o).bind fun q5 => some (((fX2_within q5.1.toInt64 (-99) 99), q5.2)))) = some (r, μc') ∧ _
    obtain ⟨μ2, e1, e2, e3⟩ := q_learn μc (n := n) 0 ho hn
    have hP2 := e3.ph hP1 ho
    have hl : fX8_hasLaw μc (343 + 7 * k) 0 = some (if μc.1 (347 + 7 * k) 0 = -1 then 0 else 1) := q_hasLaw (s := 0) (by omega)
    rw [hl, Option.bind_some]
    have hk2' : (k : Int) < (μ1.1 402 2).toInt := by rw [l3 402 (by omega) (by omega)]; exact hk2
    have hkn := ph_known h hn (v := 0) ⟨by decide, by decide⟩ e2 l2
    rw [eM]
    rcases law_both hP2 ho hk hk2' (s := 0) (by omega) (fun j hj => hkn j (by have : vz_lim 0 = 6 := rfl; omega)) with ⟨g1, g2⟩ | ⟨g1, r, μ3, g2, g3, g4, g5⟩
    · have g1 : μc.1 (347 + 7 * k) 0 = -1 := by rw [← g1, e3.1 _ (by omega) (by omega)]
      have g2 : ∀ wo lo hi, fX12_says μ1 (nI k) 0 wo lo hi = some (wo, μ1) := g2
      rw [if_pos g1, if_pos rfl, eC, g2, Option.bind_some, ← eW]
      exact ⟨_, μc, μ1, rfl, rfl, hP1, LC.rfl' _, l3⟩
    · have g1 : ¬ μc.1 (347 + 7 * k) 0 = -1 := fun q => g1 (by rw [e3.1 _ (by omega) (by omega)]; exact q)
      have g2 : fX2_run μ2 (343 + 7 * k) 0 o = some (r, μ3) := g2
      rw [if_neg g1, if_neg (by decide), e1, Option.bind_some, g2, Option.bind_some]
      obtain ⟨μ4, g6, g7⟩ := g5 (μ1.1 402 9 - μ1.1 402 (36 + n)) (-99) 99 (by decide)
      have g6 : fX12_says μ1 (nI k) 0 (μ1.1 402 9 - μ1.1 402 (36 + n)) (-99) 99 = some (fX2_within r.toInt64 (-99) 99, μ4) := g6
      rw [g6, Option.bind_some]
      have L1 : LC μ2 μ3 := ⟨fun c _ hc => g3 c hc, g4⟩
      have L2 : LM μ1 μ4 := fun c _ hc => g7 c hc
      exact ⟨_, μ3, μ4, rfl, rfl, L2.ph (L1.ph hP2 ho), e3.tr L1, l3.tr L2⟩
theorem ph_breaks {bk xk : Bool} {o n : Nat} {μc μm : PM} {v : Int32} (h : PH bk xk o μc μm) (ho : PO o) (hn : n < 6) (hv : 0 ≤ v.toInt ∧ v.toInt ≤ 9) {tx : Option Nat} (hT : TA μm tx (μm.1 402 3)) : ∃ r μc' μm', fX2_askBreaks μc tx o (nI n) v = some (r, μc') ∧ fX12_breaksOf μm (nI n) v = some (r, μm') ∧ PH bk xk o μc' μm' ∧ LC μc μc' ∧ LM μm μm' ∧ 0 ≤ r.toInt ∧ r.toInt ≤ 10 := by
  obtain ⟨μ1, l1, l2, l3⟩ := q_lay μm (n := n) v hn
  have hP1 := l3.ph h
  have eM : fX12_breaksOf μm (nI n) v = (fX12_says μ1 (μm.1 402 3) 1 3 0 10).bind fun q2 => some ((q2.1, q2.2)) := by
    unfold fX12_breaksOf
    rw [l1, Option.bind_some, l3 402 (by omega) (by omega)]
  rw [eM]
  unfold fX2_askBreaks
  rcases hT with ⟨rfl, hT⟩ | ⟨k, hk, hk2, rfl, hT⟩
  · refine ⟨3, μc, μ1, rfl, ?_, hP1, LC.rfl' _, l3, by decide, by decide⟩
    rw [hT, says_neg, Option.bind_some]
  · rw [hT]
    show ∃ r μc' μm', ((fX8_hasLaw μc (343 + 7 * k) 1).bind fun q2 => (if q2 = 0 then some ((3, μc)) else (fX2_learn μc o (nI n) v).bind fun q3 => (fX2_run q3 (343 + 7 * k) 1 o).bind fun q4 => some (((fX2_within q4.1.toInt64 0 10), q4.2)))) = some (r, μc') ∧ _
    obtain ⟨μ2, e1, e2, e3⟩ := q_learn μc (n := n) v ho hn
    have hP2 := e3.ph hP1 ho
    have hl : fX8_hasLaw μc (343 + 7 * k) 1 = some (if μc.1 (347 + 7 * k) 1 = -1 then 0 else 1) := q_hasLaw (s := 1) (by omega)
    rw [hl, Option.bind_some]
    have hk2' : (k : Int) < (μ1.1 402 2).toInt := by rw [l3 402 (by omega) (by omega)]; exact hk2
    have hkn := ph_known h hn hv e2 l2
    rcases law_both hP2 ho hk hk2' (s := 1) (by omega) (fun j hj => hkn j (by have : vz_lim 1 = 7 := rfl; omega)) with ⟨g1, g2⟩ | ⟨g1, r, μ3, g2, g3, g4, g5⟩
    · have g1 : μc.1 (347 + 7 * k) 1 = -1 := by rw [← g1, e3.1 _ (by omega) (by omega)]
      have g2 : ∀ wo lo hi, fX12_says μ1 (nI k) 1 wo lo hi = some (wo, μ1) := g2
      rw [if_pos g1, if_pos rfl, g2, Option.bind_some]
      exact ⟨3, μc, μ1, rfl, rfl, hP1, LC.rfl' _, l3, by decide, by decide⟩
    · have g1 : ¬ μc.1 (347 + 7 * k) 1 = -1 := fun q => g1 (by rw [e3.1 _ (by omega) (by omega)]; exact q)
      have g2 : fX2_run μ2 (343 + 7 * k) 1 o = some (r, μ3) := g2
      rw [if_neg g1, if_neg (by decide), e1, Option.bind_some, g2, Option.bind_some]
      obtain ⟨μ4, g6, g7⟩ := g5 3 0 10 (by decide)
      have g6 : fX12_says μ1 (nI k) 1 3 0 10 = some (fX2_within r.toInt64 0 10, μ4) := g6
      rw [g6, Option.bind_some]
      have L1 : LC μ2 μ3 := ⟨fun c _ hc => g3 c hc, g4⟩
      have L2 : LM μ1 μ4 := fun c _ hc => g7 c hc
      have hw : (fX2_within r.toInt64 0 10).toInt = ez_cut r.toInt64.toInt 0 10 := q_within (by decide)
      refine ⟨_, μ3, μ4, rfl, rfl, L2.ph (L1.ph hP2 ho), e3.tr L1, l3.tr L2, ?_, ?_⟩
      · show 0 ≤ (fX2_within r.toInt64 0 10).toInt
        rw [hw]; unfold ez_cut; (repeat' split) <;> omega
      · show (fX2_within r.toInt64 0 10).toInt ≤ 10
        rw [hw]; unfold ez_cut; (repeat' split) <;> omega
def vz_cell (x : Int32) : Int32 := if 0 ≤ x.toInt ∧ x.toInt ≤ 9 then x else 0
theorem q_getM {μ : PM} {n : Nat} (hn : n < 6) : fX12_get μ (nI n) 0 = some (μ.1 402 (12 + 2 * n)) ∧ fX12_get μ (nI n) 1 = some (μ.1 402 (13 + 2 * n)) := by
  have i1 : 12 + 2 * nI n + 0 = nI (12 + 2 * n) := by rw [l_mul 2, l_add 12]; exact add_l 0 _
  have i3 : 12 + 2 * nI n + 1 = nI (13 + 2 * n) := by rw [l_mul 2, l_add 12, add_l 1]; congr 1; omega
  unfold fX12_get
  rw [i1, i3, chk_n (by omega) (by omega), chk_n (by omega) (by omega), cl_n (by omega), cl_n (by omega)]
  exact ⟨rfl, rfl⟩
theorem q_putM {μ : PM} {n : Nat} (v : Int32) (hn : n < 6) : fX12_put μ (nI n) 0 v = some (pm_wi μ 402 (12 + 2 * n) v) ∧ fX12_put μ (nI n) 1 v = some (pm_wi μ 402 (13 + 2 * n) v) := by
  have i1 : 12 + 2 * nI n + 0 = nI (12 + 2 * n) := by rw [l_mul 2, l_add 12]; exact add_l 0 _
  have i3 : 12 + 2 * nI n + 1 = nI (13 + 2 * n) := by rw [l_mul 2, l_add 12, add_l 1]; congr 1; omega
  unfold fX12_put
  rw [i1, i3, chk_n (by omega) (by omega), chk_n (by omega) (by omega), cl_n (by omega), cl_n (by omega)]
  exact ⟨rfl, rfl⟩
theorem q_cellOfM {μ : PM} {n : Nat} (hn : n < 6) : fX12_cellOf μ (nI n) = some (vz_cell (μ.1 402 (12 + 2 * n))) := by
  unfold fX12_cellOf
  rw [(q_getM hn).1, Option.bind_some, q_cellM, q_ite, Option.bind_some]
  unfold vz_cell
  split <;> rfl
theorem vz_cell_b (x : Int32) : 0 ≤ (vz_cell x).toInt ∧ (vz_cell x).toInt ≤ 9 := by
  unfold vz_cell
  split
  · assumption
  · decide
theorem ph_claims {bk xk : Bool} {o n f : Nat} {μc μm : PM} {v : Int32} (h : PH bk xk o μc μm) (ho : PO o) (hn : n < 6) (hf : f < 5) (hv : v = vz_cell (μm.1 402 (12 + 2 * n))) {tx : Option Nat} (hT : TA μm tx (μm.1 402 3)) : ∃ r μc' μm', fX2_askClaims μc tx o (nI n) v (nI f) = some (r, μc') ∧ fX12_claimsOf μm (nI n) (nI f) = some (r, μm') ∧ PH bk xk o μc' μm' ∧ LC μc μc' ∧ LM μm μm' := by
  have hvb : 0 ≤ v.toInt ∧ v.toInt ≤ 9 := by rw [hv]; exact vz_cell_b _
  obtain ⟨μ1, l1, l2, l3⟩ := q_lay μm (n := n) v hn
  have i1 : 42 + nI f = nI (42 + f) := l_add 42 f
  have L0 : LM μm (pm_wi (pm_wi μ1 407 7 (μ1.1 402 (42 + f))) 407 8 (nI f)) := l3.tr (fun c hc _ => by rw [wi_c hc, wi_c hc])
  have eM : fX12_claimsOf μm (nI n) (nI f) = (fX12_says (pm_wi (pm_wi μ1 407 7 (μ1.1 402 (42 + f))) 407 8 (nI f)) (μm.1 402 3) 2 1 (-99) 99).bind fun q6 => some ((q6.1, q6.2)) := by
    unfold fX12_claimsOf
    rw [q_cellOfM hn, Option.bind_some, ← hv, l1, Option.bind_some, i1, chk_n (by omega) (by omega), cl_n (by omega)]
    simp only [go_let]
    rw [L0 402 (by omega) (by omega)]
  rw [eM]
  have hP1 := L0.ph h
  unfold fX2_askClaims
  rcases hT with ⟨rfl, hT⟩ | ⟨k, hk, hk2, rfl, hT⟩
  · refine ⟨1, μc, _, rfl, ?_, hP1, LC.rfl' _, L0⟩
    rw [hT, says_neg, Option.bind_some]
  · rw [hT]
    show ∃ r μc' μm', ((fX8_hasLaw μc (343 + 7 * k) 2).bind fun q2 => (if q2 = 0 then some ((1, μc)) else (if nI f < 0 then some ((1, μc)) else (if nI f < 5 then (fX2_learn μc o (nI n) v).bind fun q3 => go_chk (nI f) 5 <| go_let (pm_wi q3 384 7 (q3.1 4 (nI f).toNatClampNeg)) fun μ5 => go_let (pm_wi μ5 384 8 (nI f)) fun μ6 => (fX2_run μ6 (343 + 7 * k) 2 o).bind fun q7 => some (((fX2_within q7.1.toInt64 (-99) 99), q7.2)) else some ((1, μc)))))) = some (r, μc') ∧ _
    obtain ⟨μ2, e1, e2, e3⟩ := q_learn μc (n := n) v ho hn
    have E0 : LC μc (pm_wi (pm_wi μ2 384 7 (μ2.1 4 f)) 384 8 (nI f)) := e3.tr ⟨fun c hc _ => by rw [wi_c hc, wi_c hc], rfl⟩
    have hP2 := E0.ph hP1 ho
    have hl : fX8_hasLaw μc (343 + 7 * k) 2 = some (if μc.1 (347 + 7 * k) 2 = -1 then 0 else 1) := q_hasLaw (s := 2) (by omega)
    rw [hl, Option.bind_some, if_neg (show ¬ nI f < 0 from nI_pos (by omega)), if_pos (show nI f < 5 by rw [lt_l (n := 5) (by omega) (by omega)]; exact hf)]
    simp only [go_let]
    rw [cl_n (show f < 2147483648 by omega)]
    have hk2' : (k : Int) < ((pm_wi (pm_wi μ1 407 7 (μ1.1 402 (42 + f))) 407 8 (nI f)).1 402 2).toInt := by rw [L0 402 (by omega) (by omega)]; exact hk2
    have hkn := ph_known h hn hvb e2 l2
    have hkn2 : ∀ j, j < vz_lim 2 → (pm_wi (pm_wi μ2 384 7 (μ2.1 4 f)) 384 8 (nI f)).1 384 j = (pm_wi (pm_wi μ1 407 7 (μ1.1 402 (42 + f))) 407 8 (nI f)).1 407 j ∧ -1000000 ≤ ((pm_wi (pm_wi μ1 407 7 (μ1.1 402 (42 + f))) 407 8 (nI f)).1 407 j).toInt ∧ ((pm_wi (pm_wi μ1 407 7 (μ1.1 402 (42 + f))) 407 8 (nI f)).1 407 j).toInt ≤ 1000000 := fun j hj => by
      have : vz_lim 2 = 9 := rfl
      by_cases j8 : j = 8
      · subst j8
        rw [wi_e, wi_e, ti_n (by omega)]
        exact ⟨rfl, by omega, by omega⟩
      by_cases j7 : j = 7
      · subst j7
        rw [wi_i j8, wi_i j8, wi_e, wi_e, e3.1 4 (by omega) (by omega), l3 402 (by omega) (by omega), ph_net h hf]
        have := ob_net (ph_ob h) hf
        exact ⟨rfl, by omega, by omega⟩
      rw [wi_i j8, wi_i j8, wi_i j7, wi_i j7]
      exact hkn j (by omega)
    rcases law_both hP2 ho hk hk2' (s := 2) (by omega) hkn2 with ⟨g1, g2⟩ | ⟨g1, r, μ3, g2, g3, g4, g5⟩
    · have g1 : μc.1 (347 + 7 * k) 2 = -1 := by rw [← g1, E0.1 _ (by omega) (by omega)]
      have g2 : ∀ wo lo hi, fX12_says (pm_wi (pm_wi μ1 407 7 (μ1.1 402 (42 + f))) 407 8 (nI f)) (nI k) 2 wo lo hi = some (wo, pm_wi (pm_wi μ1 407 7 (μ1.1 402 (42 + f))) 407 8 (nI f)) := g2
      rw [if_pos g1, if_pos rfl, g2, Option.bind_some]
      exact ⟨1, μc, _, rfl, rfl, hP1, LC.rfl' _, L0⟩
    · have g1 : ¬ μc.1 (347 + 7 * k) 2 = -1 := fun q => g1 (by rw [E0.1 _ (by omega) (by omega)]; exact q)
      have g2 : fX2_run (pm_wi (pm_wi μ2 384 7 (μ2.1 4 f)) 384 8 (nI f)) (343 + 7 * k) 2 o = some (r, μ3) := g2
      rw [if_neg g1, if_neg (by decide), e1, Option.bind_some, chk_n hf (by omega), g2, Option.bind_some]
      obtain ⟨μ4, g6, g7⟩ := g5 1 (-99) 99 (by decide)
      have g6 : fX12_says (pm_wi (pm_wi μ1 407 7 (μ1.1 402 (42 + f))) 407 8 (nI f)) (nI k) 2 1 (-99) 99 = some (fX2_within r.toInt64 (-99) 99, μ4) := g6
      rw [g6, Option.bind_some]
      have L1 : LC (pm_wi (pm_wi μ2 384 7 (μ2.1 4 f)) 384 8 (nI f)) μ3 := ⟨fun c _ hc => g3 c hc, g4⟩
      have L2 : LM (pm_wi (pm_wi μ1 407 7 (μ1.1 402 (42 + f))) 407 8 (nI f)) μ4 := fun c _ hc => g7 c hc
      exact ⟨_, μ3, μ4, rfl, rfl, L2.ph (L1.ph hP2 ho), E0.tr L1, L0.tr L2⟩
