/-- the tokens as the class keeps them -/
def TKC (μ : PM) (b : Nat → Nat) (n m : Nat) : Prop := m ≤ 300 ∧ tk_pos b n m = n ∧ (∀ j, j < m → tk_pos b n j < n) ∧ (∀ j, j ≤ m → μ.1 373 j = nI (tk_t b n j) ∧ μ.1 374 j = nI (tk_pos b n j)) ∧ ∀ j, j < m → tk_t b n j = 32 → μ.1 375 j = nI (min (tk_v b n j) 10000)
def LCT (μ μ' : PM) : Prop := (∀ c, c ≠ 373 → c ≠ 374 → c ≠ 375 → μ'.1 c = μ.1 c) ∧ μ'.2 = μ.2
theorem LCT.rfl' (μ : PM) : LCT μ μ := ⟨fun _ _ _ _ => rfl, rfl⟩
theorem LCT.wi {μ μ' : PM} {c i : Nat} {v : Int32} (h : LCT μ μ') (hc : c = 373 ∨ c = 374 ∨ c = 375) : LCT μ (pm_wi μ' c i v) := ⟨fun x k1 k2 k3 => (wi_c (by omega)).trans (h.1 x k1 k2 k3), (wi_2 _ _ _ _).trans h.2⟩
/-- i tokens lie there -/
def TKI (μ : PM) (b : Nat → Nat) (n i : Nat) : Prop := (∀ j, j < i → tk_pos b n j < n) ∧ (∀ j, j < i → μ.1 373 j = nI (tk_t b n j) ∧ μ.1 374 j = nI (tk_pos b n j)) ∧ ∀ j, j < i → tk_t b n j = 32 → μ.1 375 j = nI (min (tk_v b n j) 10000)
theorem TKI_s {μ μ' : PM} {b : Nat → Nat} {n i : Nat} (h : TKI μ b n i) (hp : tk_pos b n i < n) (h1 : ∀ j, j < i → μ'.1 373 j = μ.1 373 j ∧ μ'.1 374 j = μ.1 374 j ∧ μ'.1 375 j = μ.1 375 j) (h2 : μ'.1 373 i = nI (tk_num b n (tk_pos b n i))) (h3 : μ'.1 374 i = nI (tk_pos b n i)) (h4 : tk_num b n (tk_pos b n i) = 32 → μ'.1 375 i = nI (min (tk_v b n i) 10000)) : TKI μ' b n (i + 1) := by
  have ht : tk_t b n i = tk_num b n (tk_pos b n i) := if_pos hp
  refine ⟨fun j hj => ?_, fun j hj => ?_, fun j hj q => ?_⟩
  · by_cases e : j = i
    · rw [e]
      exact hp
    · exact h.1 j (by omega)
  · by_cases e : j = i
    · rw [e, ht]
      exact ⟨h2, h3⟩
    · have k := h1 j (by omega)
      rw [k.1, k.2.1]
      exact h.2.1 j (by omega)
  · by_cases e : j = i
    · rw [e] at q ⊢
      rw [ht] at q
      exact h4 q
    · rw [(h1 j (by omega)).2.2]
      exact h.2.2 j (by omega) q
theorem tk_sign_32 (x : Nat) (q : Bool) : tk_sign x q ≠ 32 := by
  unfold tk_sign
  repeat' split
  all_goals omega
theorem q_split {μ : PM} {b : Nat → Nat} {n : Nat} (hb : ∀ k, k < 300 → μ.1 371 k = nI (b k) ∧ b k < 256) (hn : n ≤ 300) : ∃ μ' m, fX6_splitTape μ (nI n) = some μ' ∧ TKC μ' b n m ∧ LCT μ μ' := by
  obtain ⟨x, l1, l2⟩ := lp_inv (f := fun s : Int32 × Int32 × PM => lbX6_splitTape_4 (nI n) s.1 s.2.1 s.2.2)
    (fun s => ∃ i y, s.1 = nI i ∧ s.2.1 = nI y ∧ i ≤ y ∧ y ≤ n ∧ tk_run tk_sp b n y = tk_pos b n i ∧ TKI s.2.2 b n i ∧ LCT μ s.2.2) (fun s => 301 - s.2.1.toNatClampNeg)
    (fun x => ∃ i μ1, x = .inl (nI i, μ1) ∧ i ≤ 300 ∧ tk_pos b n i = n ∧ TKI μ1 b n i ∧ LCT μ μ1)
    (fun s hI => by
      obtain ⟨s1, s2, μ1⟩ := s
      obtain ⟨i, y, e1, e2, i1, i2, i3, i4, i5⟩ := hI
      have e1 : s1 = nI i := e1
      have e2 : s2 = nI y := e2
      have i4 : TKI μ1 b n i := i4
      have i5 : LCT μ μ1 := i5
      subst e1 e2
      have e371 : μ1.1 371 = μ.1 371 := i5.1 371 (by omega) (by omega) (by omega)
      have hb1 : ∀ k, k < 300 → μ1.1 371 k = nI (b k) ∧ b k < 256 := fun k hk => by rw [e371]; exact hb k hk
      have hc : nI n ≤ nI y ↔ n ≤ y := le_n (by omega) (by omega)
      dsimp only
      unfold lbX6_splitTape_4
      by_cases hy : n ≤ y
      · right
        rw [if_pos (hc.mpr hy)]
        refine ⟨_, rfl, i, μ1, rfl, by omega, ?_, i4, i5⟩
        rw [← i3, tk_run_0 hy]
        omega
      left
      obtain ⟨by1, by2⟩ := hb1 y (by omega)
      rw [if_neg (fun q => hy (hc.mp q)), if_neg (show ¬ (300 : Int32) ≤ nI i by rw [l_le (n := 300) (by omega) (by omega)]; omega), chk_n (show y < 300 by omega) (by omega)]
      simp only [go_let]
      rw [cl_n (show y < 2147483648 by omega), by1, add_l 1]
      have q32 : nI (b y) = 32 ↔ b y = 32 := eq_l (n := 32) (by omega) (by omega)
      have q10 : nI (b y) = 10 ↔ b y = 10 := eq_l (n := 10) (by omega) (by omega)
      by_cases hs : tk_sp (b y) = true
      · have fin : ∃ s' : Int32 × Int32 × PM, (some (.inl (nI i, nI (y + 1), μ1)) : Option ((Int32 × Int32 × PM) ⊕ ((Int32 × PM) ⊕ PM))) = some (.inl s') ∧ (∃ i y, s'.1 = nI i ∧ s'.2.1 = nI y ∧ i ≤ y ∧ y ≤ n ∧ tk_run tk_sp b n y = tk_pos b n i ∧ TKI s'.2.2 b n i ∧ LCT μ s'.2.2) ∧ 301 - s'.2.1.toNatClampNeg < 301 - y := by
          refine ⟨_, rfl, ⟨i, y + 1, rfl, rfl, by omega, by omega, ?_, i4, i5⟩, by dsimp only; rw [cl_n (show y + 1 < 2147483648 by omega)]; omega⟩
          rw [← tk_run_s (by omega) hs]
          exact i3
        unfold jjX6_splitTape_43_4
        rcases of_decide_eq_true hs with q | q
        · rw [if_pos (q32.mpr q)]
          exact fin
        · rw [if_neg (fun z => by have := q32.mp z; omega), if_pos (q10.mpr q)]
          exact fin
      have hs' : tk_sp (b y) = false := Bool.eq_false_iff.mpr hs
      have hnb : ¬ (b y = 32 ∨ b y = 10) := of_decide_eq_false hs'
      rw [if_neg (fun z => hnb (Or.inl (q32.mp z))), if_neg (fun z => hnb (Or.inr (q10.mp z))), q_isLet _ by2, nb_01, q_isDig _ by2, nb_01]
      have ep : tk_pos b n i = y := by rw [← i3, tk_run_f hs']
      have hpn : tk_pos b n i < n := by omega
      have hend := tk_end_le (b := b) (show y < n by omega)
      have epn : tk_run tk_sp b n (tk_end b n y) = tk_pos b n (i + 1) := by
        conv => rhs; unfold tk_pos
        rw [if_pos hpn, ep]
      have fin : ∀ μ2, LCT μ μ2 → (∀ j, j < i → μ2.1 373 j = μ1.1 373 j ∧ μ2.1 374 j = μ1.1 374 j ∧ μ2.1 375 j = μ1.1 375 j) → μ2.1 373 i = nI (tk_num b n y) → (tk_num b n y = 32 → μ2.1 375 i = nI (min (tk_v b n i) 10000)) → ∃ s' : Int32 × Int32 × PM, jjX6_splitTape_225_4 μ2 (nI n) (nI i) (nI y) (nI (tk_end b n y)) = some (.inl s') ∧ (∃ i y, s'.1 = nI i ∧ s'.2.1 = nI y ∧ i ≤ y ∧ y ≤ n ∧ tk_run tk_sp b n y = tk_pos b n i ∧ TKI s'.2.2 b n i ∧ LCT μ s'.2.2) ∧ 301 - s'.2.1.toNatClampNeg < 301 - y := by
        intro μ2 f1 f2 f3 f4
        unfold jjX6_splitTape_225_4
        rw [chk_n (show i < 301 by omega) (by omega)]
        simp only [go_let]
        rw [cl_n (show i < 2147483648 by omega), add_l 1]
        refine ⟨_, rfl, ⟨i + 1, tk_end b n y, rfl, rfl, by omega, by omega, epn, ?_, f1.wi (Or.inr (Or.inl rfl))⟩, by dsimp only; rw [cl_n (show tk_end b n y < 2147483648 by omega)]; omega⟩
        refine TKI_s i4 hpn (fun j hj => ?_) ?_ ?_ (fun q => ?_)
        · have := f2 j hj
          dsimp only
          rw [wi_c (by decide), wi_i (by omega), wi_c (by decide)]
          exact this
        · dsimp only
          rw [wi_c (by decide), ep]
          exact f3
        · dsimp only
          rw [wi_r, if_pos ⟨rfl, rfl⟩, ep]
        · dsimp only
          rw [wi_c (by decide)]
          rw [ep] at q
          exact f4 q
      by_cases hl : tk_let (b y) = true
      · have ee : tk_end b n y = tk_run tk_let b n (y + 1) := if_pos hl
        have en : tk_num b n y = tk_word (tk_K b y (tk_end b n y - y)) := if_pos hl
        rw [if_pos hl, q_runL hb1 hn (by omega), Option.bind_some, ← ee]
        show ∃ s', jjX6_splitTape_82_4 μ1 (nI n) (nI i) (nI y) (nI (tk_end b n y)) = _ ∧ _
        have hw := q_findWord (x := y) (l := tk_end b n y - y) hb1 (by omega) (fun j hj => by
          by_cases j0 : j = 0
          · rw [j0, Nat.add_zero]
            have := of_decide_eq_true hl
            omega
          · have := of_decide_eq_true (tk_run_all (P := tk_let) (b := b) (n := n) (x := y + 1) (y := y + j) (by omega) (by rw [← ee]; omega))
            omega)
        rw [show y + (tk_end b n y - y) = tk_end b n y by omega] at hw
        unfold jjX6_splitTape_82_4
        rw [hw, Option.bind_some, chk_n (show i < 301 by omega) (by omega)]
        simp only [go_let]
        rw [cl_n (show i < 2147483648 by omega)]
        refine fin _ (i5.wi (Or.inl rfl)) (fun j hj => ⟨wi_i (by omega), by rw [wi_c (by decide)], by rw [wi_c (by decide)]⟩) ?_ (fun q => ?_)
        · rw [wi_r, if_pos ⟨rfl, rfl⟩, en]
        · have := tk_word_le (tk_K b y (tk_end b n y - y))
          omega
      rw [if_neg hl]
      by_cases hd : tk_dig (b y) = true
      · have ee : tk_end b n y = tk_run tk_dig b n (y + 1) := by
          unfold tk_end
          rw [if_neg hl, if_pos hd]
        have en : tk_num b n y = 32 := by
          unfold tk_num
          rw [if_neg hl, if_pos hd]
        rw [if_pos hd, q_runD hb1 hn (by omega), Option.bind_some, ← ee]
        show ∃ s', jjX6_splitTape_131_4 μ1 (nI n) (nI i) (nI y) (nI (tk_end b n y)) = _ ∧ _
        unfold jjX6_splitTape_131_4
        rw [chk_n (show i < 301 by omega) (by omega)]
        simp only [go_let]
        rw [cl_n (show i < 2147483648 by omega)]
        have hv := q_valueOf (μ := pm_wi μ1 373 i 32) (b := b) (x := y) (l := tk_end b n y - y) (fun k hk => by rw [wi_c (by decide)]; exact hb1 k hk) (by omega) (fun j hj => by
          by_cases j0 : j = 0
          · rw [j0]
            exact hd
          · exact tk_run_all (P := tk_dig) (b := b) (n := n) (x := y + 1) (y := y + j) (by omega) (by rw [← ee]; omega))
        rw [show y + (tk_end b n y - y) = tk_end b n y by omega] at hv
        rw [hv, Option.bind_some, chk_n (show i < 301 by omega) (by omega)]
        refine fin _ ((i5.wi (Or.inl rfl)).wi (Or.inr (Or.inr rfl))) (fun j hj => ⟨by rw [wi_c (by decide), wi_i (by omega)], by rw [wi_c (by decide), wi_c (by decide)], by rw [wi_i (by omega), wi_c (by decide)]⟩) ?_ (fun q => ?_)
        · rw [wi_c (by decide), wi_r, if_pos ⟨rfl, rfl⟩, en]
          rfl
        · rw [wi_r, if_pos ⟨rfl, rfl⟩]
          unfold tk_v
          rw [ep]
      have en : tk_num b n y = tk_sign (b y) (tk_two b n y) := by
        unfold tk_num
        rw [if_neg hl, if_neg hd]
      have ee : tk_end b n y = if tk_two b n y = true ∧ (b y = 60 ∨ b y = 62) then y + 2 else y + 1 := by
        unfold tk_end
        rw [if_neg hl, if_neg hd]
      rw [if_neg hd]
      have key : ∀ q : Bool, tk_two b n y = q → ∃ s' : Int32 × Int32 × PM, jjX6_splitTape_178_4 μ1 (nI n) (nI i) (nI y) (nI (b y)) (nI (y + 1)) (if q = true then 1 else 0) = some (.inl s') ∧ (∃ i y, s'.1 = nI i ∧ s'.2.1 = nI y ∧ i ≤ y ∧ y ≤ n ∧ tk_run tk_sp b n y = tk_pos b n i ∧ TKI s'.2.2 b n i ∧ LCT μ s'.2.2) ∧ 301 - s'.2.1.toNatClampNeg < 301 - y := by
        intro q hq
        rw [hq] at en ee
        have hsg : fX6_findSign (nI (b y)) (if q = true then 1 else 0) = nI (tk_sign (b y) q) ∧ tk_sign (b y) q ≤ 54 ∧ (tk_sign (b y) q = 51 ∨ tk_sign (b y) q = 52 ↔ q = true ∧ (b y = 60 ∨ b y = 62)) := by
          cases q with
          | false =>
            obtain ⟨g1, g2, g3, g4⟩ := q_sign0 (b y) by2
            exact ⟨g1, g4, ⟨fun z => z.elim (fun z => absurd z g2) (fun z => absurd z g3), fun z => absurd z.1 (by decide)⟩⟩
          | true =>
            obtain ⟨g1, g2, g3, g4⟩ := q_sign1 (b y) by2
            exact ⟨g1, g4, ⟨fun z => ⟨rfl, z.elim (fun z => Or.inl (g2.mp z)) (fun z => Or.inr (g3.mp z))⟩, fun z => z.2.elim (fun z => Or.inl (g2.mpr z)) (fun z => Or.inr (g3.mpr z))⟩⟩
        obtain ⟨g1, g2, g3⟩ := hsg
        unfold jjX6_splitTape_178_4 jjX6_splitTape_217_4 jjX6_splitTape_222_4
        rw [chk_n (show i < 301 by omega) (by omega), g1]
        simp only [go_let]
        rw [chk_n (show i < 301 by omega) (by omega), chk_n (show i < 301 by omega) (by omega), cl_n (show i < 2147483648 by omega)]
        have ev : (pm_wi μ1 373 i (nI (tk_sign (b y) q))).1 373 i = nI (tk_sign (b y) q) := by rw [wi_r, if_pos ⟨rfl, rfl⟩]
        rw [ev, add_l 1, add_l 0]
        have q51 : nI (tk_sign (b y) q) = 51 ↔ tk_sign (b y) q = 51 := eq_l (n := 51) (by omega) (by omega)
        have q52 : nI (tk_sign (b y) q) = 52 ↔ tk_sign (b y) q = 52 := eq_l (n := 52) (by omega) (by omega)
        have fin2 := fin (pm_wi μ1 373 i (nI (tk_sign (b y) q))) (i5.wi (Or.inl rfl)) (fun j hj => ⟨wi_i (by omega), by rw [wi_c (by decide)], by rw [wi_c (by decide)]⟩) (by rw [ev, en]) (fun z => by
          rw [en] at z
          exfalso
          revert z
          exact tk_sign_32 _ _)
        by_cases c51 : tk_sign (b y) q = 51
        · rw [if_pos (q51.mpr c51)]
          rw [ee, if_pos (g3.mp (Or.inl c51))] at fin2
          exact fin2
        rw [if_neg (fun z => c51 (q51.mp z))]
        by_cases c52 : tk_sign (b y) q = 52
        · rw [if_pos (q52.mpr c52)]
          rw [ee, if_pos (g3.mp (Or.inr c52))] at fin2
          exact fin2
        rw [if_neg (fun z => c52 (q52.mp z))]
        rw [ee, if_neg (fun z => (g3.mpr z).elim c51 c52)] at fin2
        exact fin2
      unfold jjX6_splitTape_177_4
      have hc1 : nI n ≤ nI (y + 1) ↔ n ≤ y + 1 := le_n (by omega) (by omega)
      by_cases hy1 : n ≤ y + 1
      · rw [if_pos (hc1.mpr hy1)]
        exact key false (decide_eq_false (by omega))
      rw [if_neg (fun z => hy1 (hc1.mp z)), chk_n (show y + 1 < 300 by omega) (by omega), cl_n (show y + 1 < 2147483648 by omega), (hb1 (y + 1) (by omega)).1]
      have h256 := (hb1 (y + 1) (by omega)).2
      have q61 : nI (b (y + 1)) = 61 ↔ b (y + 1) = 61 := eq_l (n := 61) (by omega) (by omega)
      by_cases h61 : b (y + 1) = 61
      · rw [if_pos (q61.mpr h61)]
        exact key true (decide_eq_true ⟨by omega, h61⟩)
      · rw [if_neg (fun z => h61 (q61.mp z))]
        exact key false (decide_eq_false (fun z => h61 z.2)))
    go_fuel (0, 0, μ) ⟨0, 0, rfl, rfl, by omega, by omega, rfl, ⟨fun j hj => absurd hj (Nat.not_lt_zero j), fun j hj => absurd hj (Nat.not_lt_zero j), fun j hj => absurd hj (Nat.not_lt_zero j)⟩, LCT.rfl' μ⟩ (by unfold go_fuel; dsimp only; omega)
  obtain ⟨i, μ1, rfl, i1, i2, i3, i4⟩ := l2
  unfold fX6_splitTape
  rw [l1, Option.bind_some]
  show ∃ μ' m, jjX6_splitTape_241 μ1 (nI n) (nI i) = some μ' ∧ _
  unfold jjX6_splitTape_241
  simp only [go_let]
  rw [chk_n (show i < 301 by omega) (by omega), chk_n (show i < 301 by omega) (by omega), cl_n (show i < 2147483648 by omega)]
  refine ⟨_, i, rfl, ⟨i1, i2, i3.1, fun j hj => ?_, fun j hj q => ?_⟩, (i4.wi (Or.inl rfl)).wi (Or.inr (Or.inl rfl))⟩
  · by_cases e : j = i
    · rw [e, wi_c (by decide), wi_r, if_pos ⟨rfl, rfl⟩, wi_r, if_pos ⟨rfl, rfl⟩, i2]
      unfold tk_t
      rw [if_neg (by omega)]
      exact ⟨rfl, rfl⟩
    · rw [wi_c (by decide), wi_i e, wi_i e, wi_c (by decide)]
      exact i3.2.1 j (by omega)
  · rw [wi_c (by decide), wi_c (by decide)]
    exact i3.2.2 j hj q
