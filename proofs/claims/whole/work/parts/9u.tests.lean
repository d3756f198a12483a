/-! ===== what the reference asks of a token ===== -/
section TST
variable {b : Nat → Nat} {n : Nat}
theorem tk_pos_le : ∀ i, tk_pos b n i ≤ n := by
  intro i
  induction i with
  | zero => exact (tk_run_le (Nat.zero_le n)).2
  | succ i ih =>
    unfold tk_pos
    by_cases h : tk_pos b n i < n
    · rw [if_pos h]
      exact (tk_run_le (tk_end_le h).2).2
    · rw [if_neg h]
      exact ih
theorem tm_next {μ : PM} {i : Nat} (h : TPM μ b n) (ht : TM μ b n (tk_pos b n i)) : ∃ μ', fX12_nextToken μ = some μ' ∧ NF μ μ' ∧ TM μ' b n (tk_pos b n (i + 1)) := by
  have hle := tk_pos_le (b := b) (n := n) i
  by_cases hp : tk_pos b n i < n
  · have e : tk_pos b n (i + 1) = tk_run tk_sp b n (tk_end b n (tk_pos b n i)) := if_pos hp
    rw [e]
    exact nt_q h (ht.2.2.2 hp).2.1 (tk_end_le hp).2
  · have e : tk_pos b n (i + 1) = tk_pos b n i := if_neg hp
    have e2 : tk_pos b n i = n := by omega
    have := nt_q h (ht.2.2.1 e2).2 (Nat.le_refl n)
    rw [tk_run_0 (Nat.le_refl n)] at this
    rw [e, e2]
    exact this
theorem tw_6 : ∀ w, w < 31 → tk_wk w < 281474976710656 := by decide +kernel
/-- the kinds of signs -/
def tk_kd (x : Nat) (q : Bool) : Nat := if q = true ∧ x = 60 then 4 else if q = true ∧ x = 62 then 5 else if tk_sg x = true then x else 3
def tk_tab : List (Nat × Nat) := [(40, 48), (41, 49), (42, 46), (43, 44), (45, 45), (47, 47), (59, 50), (60, 40), (62, 41), (61, 42), (35, 43), (4, 51), (5, 52)]
theorem tk_kd_1 : ∀ x, x < 256 → ∀ q : Bool, tk_kd x q < 64 ∧ 40 ≤ tk_sign x q ∧ tk_sign x q ≤ 54 ∧ tk_sign x q ≠ 53 ∧ tk_kd x q ≠ 2 ∧ tk_kd x q ≠ 1 ∧ tk_kd x q ≠ 0 ∧ ∀ p ∈ tk_tab, tk_kd x q = p.1 ↔ tk_sign x q = p.2 := by decide +kernel
theorem tk_tab_1 : ∀ p ∈ tk_tab, p.1 ≠ 0 ∧ p.1 ≠ 1 ∧ p.1 ≠ 2 ∧ p.1 < 64 ∧ 40 ≤ p.2 ∧ p.2 ≠ 53 := by decide
/-- a token by its number: the kind, the number -/
theorem tm_kind {μ : PM} {i : Nat} (h : TPM μ b n) (ht : TM μ b n (tk_pos b n i)) : (tk_t b n i = 53 ∧ μ.1 401 9 = 0) ∨ (tk_t b n i = 32 ∧ μ.1 401 9 = 1 ∧ ∃ w, μ.1 401 10 = nI w ∧ VAL w (tk_v b n i)) ∨ (∃ K, tk_t b n i = tk_word K ∧ μ.1 401 9 = 2 ∧ PKL (μ.2 401 11) K) ∨ ∃ x q, x < 256 ∧ tk_t b n i = tk_sign x q ∧ μ.1 401 9 = nI (tk_kd x q) := by
  have hle := tk_pos_le (b := b) (n := n) i
  have hn := h.2.1
  by_cases hp : tk_pos b n i < n
  · obtain ⟨k1, k2, k3, k4⟩ := ht.2.2.2 hp
    have et : tk_t b n i = tk_num b n (tk_pos b n i) := if_pos hp
    rw [et, k1]
    unfold tk_num tk_kind
    by_cases hl : tk_let (b (tk_pos b n i)) = true
    · right; right; left
      rw [if_pos hl, if_pos hl]
      exact ⟨_, rfl, rfl, k4 hl⟩
    rw [if_neg hl, if_neg hl]
    by_cases hd : tk_dig (b (tk_pos b n i)) = true
    · right; left
      rw [if_pos hd, if_pos hd]
      exact ⟨rfl, rfl, k3 hd⟩
    rw [if_neg hd, if_neg hd]
    right; right; right
    exact ⟨b (tk_pos b n i), tk_two b n (tk_pos b n i), (h.2.2 _ (by omega)).2, rfl, rfl⟩
  · left
    refine ⟨if_neg hp, (ht.2.2.1 (by omega)).1⟩
theorem tm_word {μ : PM} {i w : Nat} {W : Int64} (h : TPM μ b n) (ht : TM μ b n (tk_pos b n i)) (hw : w < 31) (hW : W.toInt = (tk_wk w : Int)) : fX12_isWord μ W = if tk_t b n i = w then 1 else 0 := by
  unfold fX12_isWord
  rcases tm_kind h ht with ⟨e1, e2⟩ | ⟨e1, e2, -⟩ | ⟨K, e1, e2, e3⟩ | ⟨x, q, hx, e1, e2⟩
  · rw [e1, e2, if_neg (by decide), if_neg (by omega)]
  · rw [e1, e2, if_neg (by decide), if_neg (by omega)]
  · have hk := tw_6 w hw
    have hc : lg_cmp (μ.2 401 11) W = 0 ↔ tk_word K = w := by
      rw [lc_eq, hW, tk_word_iff hw]
      rcases e3 with ⟨g1, g2⟩ | ⟨g1, g2⟩ <;> rw [g2] <;> omega
    rw [e1, e2, if_pos rfl]
    by_cases c : tk_word K = w
    · rw [if_pos (hc.mpr c), if_pos c]
    · rw [if_neg (fun z => c (hc.mp z)), if_neg c]
  · obtain ⟨g1, g2, g3, g4, g5, -⟩ := tk_kd_1 x hx q
    have hq : nI (tk_kd x q) = 2 ↔ tk_kd x q = 2 := eq_l (n := 2) (by omega) (by omega)
    rw [e1, e2, if_neg (fun z => g5 (hq.mp z)), if_neg (by omega)]
theorem tm_sign {μ : PM} {i : Nat} {p : Nat × Nat} (h : TPM μ b n) (ht : TM μ b n (tk_pos b n i)) (hp : p ∈ tk_tab) : μ.1 401 9 = nI p.1 ↔ tk_t b n i = p.2 := by
  obtain ⟨p1, p2, p3, p4, p5, p6⟩ := tk_tab_1 p hp
  rcases tm_kind h ht with ⟨e1, e2⟩ | ⟨e1, e2, -⟩ | ⟨K, e1, e2, e3⟩ | ⟨x, q, hx, e1, e2⟩
  · rw [e1, e2]
    exact ⟨fun z => absurd ((nI_eq (a := 0) (b := p.1) (by omega) (by omega)).mp z).symm p1, fun z => absurd z.symm p6⟩
  · rw [e1, e2]
    exact ⟨fun z => absurd ((nI_eq (a := 1) (b := p.1) (by omega) (by omega)).mp z).symm p2, fun z => by omega⟩
  · have := tk_word_le K
    rw [e1, e2]
    exact ⟨fun z => absurd ((nI_eq (a := 2) (b := p.1) (by omega) (by omega)).mp z).symm p3, fun z => by omega⟩
  · obtain ⟨g1, g2, g3, g4, g5, g6, g7, g8⟩ := tk_kd_1 x hx q
    rw [e1, e2, ← g8 p hp]
    exact nI_eq (by omega) (by omega)
theorem tm_fig {μ : PM} {i : Nat} (h : TPM μ b n) (ht : TM μ b n (tk_pos b n i)) : μ.1 401 9 = 1 ↔ tk_t b n i = 32 := by
  rcases tm_kind h ht with ⟨e1, e2⟩ | ⟨e1, e2, -⟩ | ⟨K, e1, e2, e3⟩ | ⟨x, q, hx, e1, e2⟩
  · rw [e1, e2]
    exact ⟨fun z => absurd z (by decide), fun z => absurd z (by decide)⟩
  · rw [e1, e2]
    exact ⟨fun _ => rfl, fun _ => rfl⟩
  · have := tk_word_le K
    rw [e1, e2]
    exact ⟨fun z => absurd z (by decide), fun z => by omega⟩
  · obtain ⟨g1, g2, g3, g4, g5, g6, g7, g8⟩ := tk_kd_1 x hx q
    rw [e1, e2]
    exact ⟨fun z => absurd ((eq_l (n := 1) (by omega) (by omega)).mp z) g6, fun z => by omega⟩
theorem tm_end {μ : PM} {i : Nat} (h : TPM μ b n) (ht : TM μ b n (tk_pos b n i)) : μ.1 401 9 = 0 ↔ tk_t b n i = 53 := by
  rcases tm_kind h ht with ⟨e1, e2⟩ | ⟨e1, e2, -⟩ | ⟨K, e1, e2, e3⟩ | ⟨x, q, hx, e1, e2⟩
  · rw [e1, e2]
    exact ⟨fun _ => rfl, fun _ => rfl⟩
  · rw [e1, e2]
    exact ⟨fun z => absurd z (by decide), fun z => absurd z (by decide)⟩
  · have := tk_word_le K
    rw [e1, e2]
    exact ⟨fun z => absurd z (by decide), fun z => by omega⟩
  · obtain ⟨g1, g2, g3, g4, g5, g6, g7, g8⟩ := tk_kd_1 x hx q
    rw [e1, e2]
    exact ⟨fun z => absurd ((eq_l (n := 0) (by omega) (by omega)).mp z) g7, fun z => absurd z g4⟩
theorem tm_val {μ : PM} {i : Nat} (h : TPM μ b n) (ht : TM μ b n (tk_pos b n i)) (h32 : tk_t b n i = 32) : ∃ w, μ.1 401 10 = nI w ∧ VAL w (tk_v b n i) := by
  rcases tm_kind h ht with ⟨e1, e2⟩ | ⟨e1, e2, e3⟩ | ⟨K, e1, e2, e3⟩ | ⟨x, q, hx, e1, e2⟩
  · omega
  · exact e3
  · have := tk_word_le K
    omega
  · have := tk_kd_1 x hx q
    omega
/-- the words that the reference knows by their letters -/
theorem tw_at : (fX12_w2 97 116).toInt = (tk_wk 20 : Int) ∧ (fX12_w2 105 110).toInt = (tk_wk 19 : Int) ∧ (fX12_w2 111 102).toInt = (tk_wk 21 : Int) ∧ (fX12_w2 105 102).toInt = (tk_wk 22 : Int) ∧ (fX12_w4 116 104 101 110).toInt = (tk_wk 23 : Int) ∧ (fX12_w4 101 108 115 101).toInt = (tk_wk 24 : Int) ∧ (fX12_w3 101 110 100).toInt = (tk_wk 25 : Int) ∧ (fX12_w2 111 114).toInt = (tk_wk 26 : Int) ∧ (fX12_w3 97 110 100).toInt = (tk_wk 27 : Int) ∧ (fX12_w3 110 111 116).toInt = (tk_wk 28 : Int) ∧ (fX12_w5 100 105 103 105 116).toInt = (tk_wk 29 : Int) ∧ (fX12_w3 105 99 101).toInt = (tk_wk 30 : Int) := by decide +kernel
theorem tw_sort : (fX12_w5 109 101 108 116 115).toInt = (tk_wk 0 : Int) ∧ (fX12_w6 98 114 101 97 107 115).toInt = (tk_wk 1 : Int) ∧ (fX12_w6 99 108 97 105 109 115).toInt = (tk_wk 2 : Int) ∧ (fX12_w4 110 97 109 101).toInt = (tk_wk 3 : Int) ∧ (fX12_w6 102 97 109 105 108 121).toInt = (tk_wk 4 : Int) ∧ (fX12_w4 99 97 108 108).toInt = (tk_wk 5 : Int) ∧ (fX12_w3 108 97 121).toInt = (tk_wk 6 : Int) ∧ (fX12_w4 116 97 107 101).toInt = (tk_wk 7 : Int) ∧ (fX12_w5 115 116 97 110 100).toInt = (tk_wk 8 : Int) ∧ (fX12_w4 115 105 110 107).toInt = (tk_wk 9 : Int) ∧ (fX12_w4 104 111 117 114).toInt = (tk_wk 10 : Int) := by decide +kernel
theorem tw_name : (fX12_w4 119 97 114 109).toInt = (tk_wk 11 : Int) ∧ (fX12_w5 108 97 121 101 114).toInt = (tk_wk 12 : Int) ∧ (fX12_w4 115 105 122 101).toInt = (tk_wk 13 : Int) ∧ (fX12_w3 119 104 111).toInt = (tk_wk 14 : Int) ∧ (fX12_w6 115 111 117 110 100 115).toInt = (tk_wk 15 : Int) ∧ (fX12_w4 99 101 108 108).toInt = (tk_wk 16 : Int) ∧ (fX12_w3 110 101 116).toInt = (tk_wk 17 : Int) ∧ (fX12_w5 104 111 117 115 101).toInt = (tk_wk 18 : Int) := by decide +kernel
end TST
