/-! ===== the reference takes its next token ===== -/
theorem sh48 (L : Int64) : (L >>> ((48 : Int32).toInt64 &&& 63)).toInt = L.toInt / 281474976710656 := by
  have e1 : (((48 : Int32).toInt64 &&& 63).toBitVec.smod 64) = 48#64 := by decide
  show (L >>> ((48 : Int32).toInt64 &&& 63)).toBitVec.toInt = _
  rw [Int64.toBitVec_shiftRight, e1]
  show ((L.toBitVec).sshiftRight 48).toInt = _
  rw [BitVec.toInt_sshiftRight, Int.shiftRight_eq_div_pow]
  rfl
theorem n64b {k : Nat} (h : k < 9223372036854775808) : (Int64.ofNat k).toBitVec.toNat = k := by
  show k % 18446744073709551616 = k
  omega
theorem sh8 {L : Int64} {K c : Nat} (h : L.toInt = (K : Nat)) (hK : K < 281474976710656) (hc : c < 256) : ((L <<< ((8 : Int32).toInt64 &&& 63)) ||| (nI c).toInt64).toInt = ((K * 256 + c : Nat) : Int) := by
  have eL : L = Int64.ofNat K := Int64.toInt_inj.mp (by rw [h, Int64.toInt_ofNat_of_lt (by omega)])
  have ec : (nI c).toInt64 = Int64.ofNat c := Int64.toInt_inj.mp (by rw [il, ti_n (by omega), Int64.toInt_ofNat_of_lt (by omega)])
  have e : (Int64.ofNat K <<< ((8 : Int32).toInt64 &&& 63)) ||| Int64.ofNat c = Int64.ofNat (K * 256 + c) := by
    apply Int64.toBitVec_inj.mp
    apply BitVec.eq_of_toNat_eq
    rw [Int64.toBitVec_or, BitVec.toNat_or]
    show ((Int64.ofNat K).toBitVec <<< 8).toNat ||| (Int64.ofNat c).toBitVec.toNat = _
    rw [BitVec.toNat_shiftLeft, n64b (by omega), n64b (by omega), n64b (by omega), Nat.mod_eq_of_lt (by rw [Nat.shiftLeft_eq]; omega), ← Nat.shiftLeft_add_eq_or_of_lt (by omega), Nat.shiftLeft_eq]
  rw [eL, ec, e, Int64.toInt_ofNat_of_lt (by omega)]
def PKL (L : Int64) (K : Nat) : Prop := (K < 72057594037927936 ∧ L.toInt = (K : Int)) ∨ (72057594037927936 ≤ K ∧ L.toInt = 1152921504606846976)
theorem pkl_z {L : Int64} {K : Nat} (h : PKL L K) : lg_cmp (L >>> ((48 : Int32).toInt64 &&& 63)) 0 = 0 ↔ K < 281474976710656 := by
  have e0 : (0 : Int64).toInt = 0 := by decide
  rw [lc_eq, sh48, e0]
  rcases h with ⟨h1, h2⟩ | ⟨h1, h2⟩ <;> rw [h2] <;> omega
theorem pkl_s {L : Int64} {K c : Nat} (h : PKL L K) (hK : K < 281474976710656) (hc : c < 256) : PKL ((L <<< ((8 : Int32).toInt64 &&& 63)) ||| (nI c).toInt64) (K * 256 + c) := by
  rcases h with ⟨h1, h2⟩ | ⟨h1, h2⟩
  · exact Or.inl ⟨by omega, sh8 h2 hK hc⟩
  · omega
theorem pkl_t {K c : Nat} (hK : ¬ K < 281474976710656) : PKL 1152921504606846976 (K * 256 + c) := Or.inr ⟨by omega, by decide⟩
/-- a number as the reference takes it -/
def VAL (w D : Nat) : Prop := w ≤ 999999 ∧ (D ≤ 99999 → w = D) ∧ (99999 < D → 99999 < w)
/-- the reference's number of a sign -/
def tk_sg (x : Nat) : Bool := decide (x = 35 ∨ x = 40 ∨ x = 41 ∨ x = 42 ∨ x = 43 ∨ x = 45 ∨ x = 47 ∨ x = 58 ∨ x = 59 ∨ x = 60 ∨ x = 61 ∨ x = 62)
def tk_kind (b : Nat → Nat) (n x : Nat) : Nat := if tk_let (b x) = true then 2 else if tk_dig (b x) = true then 1 else if tk_two b n x = true ∧ b x = 60 then 4 else if tk_two b n x = true ∧ b x = 62 then 5 else if tk_sg (b x) = true then b x else 3
theorem q_isLetM : ∀ x, x < 256 → fX12_isLetterByte (nI x) = if tk_let x = true then 1 else 0 := by decide +kernel
theorem q_isFigM : ∀ x, x < 256 → fX12_isFigure (nI x) = if tk_dig x = true then 1 else 0 := by decide +kernel
theorem q_isSgM : ∀ x, x < 256 → fX12_isSign (nI x) = if tk_sg x = true then 1 else 0 := by decide +kernel
/-- the tape as the reference has it -/
def TPM (μ : PM) (b : Nat → Nat) (n : Nat) : Prop := μ.1 401 4 = nI n ∧ n ≤ 300 ∧ ∀ k, k < 300 → μ.1 405 k = nI (b k) ∧ b k < 256
/-- what taking a token may change -/
def NF (μ μ' : PM) : Prop := (∀ c, c ≠ 401 → μ'.1 c = μ.1 c) ∧ ∀ j, j ≠ 7 → j ≠ 8 → j ≠ 9 → j ≠ 10 → μ'.1 401 j = μ.1 401 j
theorem NF.rfl' (μ : PM) : NF μ μ := ⟨fun _ _ => rfl, fun _ _ _ _ _ => rfl⟩
theorem NF.tr {a b c : PM} (h : NF a b) (h2 : NF b c) : NF a c := ⟨fun x hx => (h2.1 x hx).trans (h.1 x hx), fun j h7 h8 h9 h10 => (h2.2 j h7 h8 h9 h10).trans (h.2 j h7 h8 h9 h10)⟩
theorem NF.wi {μ μ' : PM} {i : Nat} {v : Int32} (h : NF μ μ') (hi : i = 7 ∨ i = 8 ∨ i = 9 ∨ i = 10) : NF μ (pm_wi μ' 401 i v) := ⟨fun c hc => (wi_c hc).trans (h.1 c hc), fun j h7 h8 h9 h10 => (wi_i (by omega)).trans (h.2 j h7 h8 h9 h10)⟩
theorem NF.wl {μ μ' : PM} {c i : Nat} {v : Int64} (h : NF μ μ') : NF μ (pm_wl μ' c i v) := h
theorem TPM.nf {μ μ' : PM} {b : Nat → Nat} {n : Nat} (h : TPM μ b n) (hN : NF μ μ') : TPM μ' b n := ⟨(hN.2 4 (by omega) (by omega) (by omega) (by omega)).trans h.1, h.2.1, fun k hk => by rw [hN.1 405 (by omega)]; exact h.2.2 k hk⟩
theorem q_byteN {μ : PM} {b : Nat → Nat} {n y : Nat} (h : TPM μ b n) (hy : y < n) : fX12_byteAt μ (nI y) = some (nI (b y)) := by
  have hn := h.2.1
  unfold fX12_byteAt
  rw [h.1, if_neg (show ¬ nI n ≤ nI y by rw [le_n (by omega) (by omega)]; omega), chk_n (show y < 300 by omega) (by omega), cl_n (show y < 2147483648 by omega), (h.2.2 y (by omega)).1]
theorem q_byteE {μ : PM} {b : Nat → Nat} {n y : Nat} (h : TPM μ b n) (hy : n ≤ y) (hy2 : y ≤ 300) : fX12_byteAt μ (nI y) = some (-1) := by
  have hn := h.2.1
  unfold fX12_byteAt
  rw [h.1, if_pos (show nI n ≤ nI y by rw [le_n (by omega) (by omega)]; omega)]
/-- the token at x lies there -/
def TM (μ : PM) (b : Nat → Nat) (n x : Nat) : Prop := μ.1 401 8 = nI x ∧ x ≤ n ∧ (x = n → μ.1 401 9 = 0 ∧ μ.1 401 7 = nI n) ∧ (x < n → μ.1 401 9 = nI (tk_kind b n x) ∧ μ.1 401 7 = nI (tk_end b n x) ∧ (tk_dig (b x) = true → ∃ w, μ.1 401 10 = nI w ∧ VAL w (tk_D b x (tk_end b n x - x))) ∧ (tk_let (b x) = true → PKL (μ.2 401 11) (tk_K b x (tk_end b n x - x))))
def nt_core (μ : PM) : Option PM := go_let (pm_wi μ 401 8 (μ.1 401 7)) fun μ8 => (fX12_byteAt μ8 (μ8.1 401 7)).bind fun q9 => (if 0 ≤ q9 then (if (fX12_isFigure q9) = 0 then (if (fX12_isLetterByte q9) = 0 then (if (fX12_isSign q9) = 0 then jjX12_nextToken_247 μ8 q9 3 else jjX12_nextToken_247 μ8 q9 q9) else go_let (pm_wi μ8 401 9 2) fun μ15 => go_let (pm_wl μ15 401 11 0) fun μ16 => ((lp (fun s => lbX12_nextToken_168 s) go_fuel μ16).bind fun ρ21 => some ρ21)) else go_let (pm_wi μ8 401 9 1) fun μ22 => go_let (pm_wi μ22 401 10 0) fun μ23 => ((lp (fun s => lbX12_nextToken_85 s) go_fuel μ23).bind fun ρ28 => some ρ28)) else go_let (pm_wi μ8 401 9 0) fun μ29 => some (μ29))
theorem nt_eq (μ : PM) : fX12_nextToken μ = (fX12_byteAt μ (μ.1 401 7)).bind fun q1 => (if q1 = 32 then jjX12_nextToken_26 μ else (fX12_byteAt μ (μ.1 401 7)).bind fun q30 => (if q30 = 10 then jjX12_nextToken_26 μ else nt_core μ)) := rfl
theorem nt_26 (μ : PM) : jjX12_nextToken_26 μ = (lp (fun s => lbX12_nextToken_0 s) go_fuel (pm_wi μ 401 7 (μ.1 401 7 + 1))).bind fun ρ6 => go_cs ρ6 nt_core (fun y => some y) := rfl
section NXT
variable {b : Nat → Nat} {n : Nat}
/-- letters -/
theorem nt_let {μ : PM} {x : Nat} (h : TPM μ b n) (h7 : μ.1 401 7 = nI x) (hx : x < n) (hl : tk_let (b x) = true) (h0 : μ.2 401 11 = 0) : ∃ μ', lp (fun s => lbX12_nextToken_168 s) go_fuel μ = some μ' ∧ NF μ μ' ∧ μ'.1 401 7 = nI (tk_end b n x) ∧ μ'.1 401 8 = μ.1 401 8 ∧ μ'.1 401 9 = μ.1 401 9 ∧ PKL (μ'.2 401 11) (tk_K b x (tk_end b n x - x)) := by
  have hn := h.2.1
  have ee : tk_end b n x = tk_run tk_let b n x := by rw [tk_run_s hx hl]; exact if_pos hl
  have hle := tk_run_le (P := tk_let) (b := b) (show x ≤ n by omega)
  rw [ee]
  exact lp_inv (f := fun s => lbX12_nextToken_168 s)
    (fun s => ∃ y, x ≤ y ∧ y ≤ tk_run tk_let b n x ∧ s.1 401 7 = nI y ∧ NF μ s ∧ s.1 401 8 = μ.1 401 8 ∧ s.1 401 9 = μ.1 401 9 ∧ PKL (s.2 401 11) (tk_K b x (y - x))) (fun s => 301 - (s.1 401 7).toNatClampNeg)
    (fun μ' => NF μ μ' ∧ μ'.1 401 7 = nI (tk_run tk_let b n x) ∧ μ'.1 401 8 = μ.1 401 8 ∧ μ'.1 401 9 = μ.1 401 9 ∧ PKL (μ'.2 401 11) (tk_K b x (tk_run tk_let b n x - x)))
    (fun s hI => by
      obtain ⟨y, y1, y2, y3, y4, y5, y6, y7⟩ := hI
      have hT := h.nf y4
      unfold lbX12_nextToken_168 jjX12_nextToken_218_168
      simp only [go_let]
      rw [y3]
      by_cases hy : y = tk_run tk_let b n x
      · right
        subst hy
        rcases tk_run_end (P := tk_let) (b := b) (show x ≤ n by omega) with q | q
        · rw [q_byteE hT (by omega) (by omega), Option.bind_some, if_pos (by decide)]
          exact ⟨s, rfl, y4, y3, y5, y6, y7⟩
        · by_cases hyn : tk_run tk_let b n x = n
          · rw [q_byteE hT (by omega) (by omega), Option.bind_some, if_pos (by decide)]
            exact ⟨s, rfl, y4, y3, y5, y6, y7⟩
          · rw [q_byteN hT (by omega), Option.bind_some, q_isLetM _ (hT.2.2 _ (by omega)).2, nb_01, if_neg (by rw [q]; decide)]
            exact ⟨s, rfl, y4, y3, y5, y6, y7⟩
      left
      have hP := tk_run_all (P := tk_let) (b := b) (n := n) y1 (show y < tk_run tk_let b n x by omega)
      have h256 := (hT.2.2 y (by omega)).2
      have eK : tk_K b x (y + 1 - x) = tk_K b x (y - x) * 256 + b y := by
        rw [show y + 1 - x = (y - x) + 1 by omega]
        show tk_K b x (y - x) * 256 + b (x + (y - x)) = _
        rw [show x + (y - x) = y by omega]
      rw [q_byteN hT (by omega), Option.bind_some, q_isLetM _ h256, nb_01, if_pos hP]
      have fin : ∀ L, PKL L (tk_K b x (y - x) * 256 + b y) → ∃ s', (some (.inl (pm_wi (pm_wl s 401 11 L) 401 7 ((pm_wl s 401 11 L).1 401 7 + 1))) : Option (PM ⊕ PM)) = some (.inl s') ∧ (∃ y, x ≤ y ∧ y ≤ tk_run tk_let b n x ∧ s'.1 401 7 = nI y ∧ NF μ s' ∧ s'.1 401 8 = μ.1 401 8 ∧ s'.1 401 9 = μ.1 401 9 ∧ PKL (s'.2 401 11) (tk_K b x (y - x))) ∧ 301 - (s'.1 401 7).toNatClampNeg < 301 - (nI y).toNatClampNeg := by
        intro L hL
        have e7 : (pm_wl s 401 11 L).1 401 7 + 1 = nI (y + 1) := by
          show s.1 401 7 + 1 = _
          rw [y3, add_l 1]
        rw [e7]
        refine ⟨_, rfl, ⟨y + 1, by omega, by omega, by rw [wi_r, if_pos ⟨rfl, rfl⟩], y4.wl.wi (Or.inl rfl), by rw [wi_i (by omega)]; exact y5, by rw [wi_i (by omega)]; exact y6, ?_⟩, by rw [wi_r, if_pos ⟨rfl, rfl⟩, cl_n (show y + 1 < 2147483648 by omega), cl_n (show y < 2147483648 by omega)]; omega⟩
        rw [eK, wi_2]
        have : (pm_wl s 401 11 L).2 401 11 = L := by rw [wl_r, if_pos ⟨rfl, rfl⟩]
        rw [this]
        exact hL
      by_cases hz : tk_K b x (y - x) < 281474976710656
      · rw [if_pos ((pkl_z y7).mpr hz), Option.bind_some]
        exact fin _ (pkl_s y7 hz h256)
      · rw [if_neg (fun q => hz ((pkl_z y7).mp q))]
        exact fin _ (pkl_t hz))
    go_fuel μ ⟨x, by omega, by omega, h7, NF.rfl' μ, rfl, rfl, by rw [h0, Nat.sub_self]; exact Or.inl ⟨show 0 < 72057594037927936 by decide, show (0 : Int64).toInt = ((0 : Nat) : Int) by decide⟩⟩ (by unfold go_fuel; omega)
/-- figures -/
theorem nt_dig {μ : PM} {x : Nat} (h : TPM μ b n) (h7 : μ.1 401 7 = nI x) (hx : x < n) (hl : ¬ tk_let (b x) = true) (hd : tk_dig (b x) = true) (h0 : μ.1 401 10 = 0) : ∃ μ', lp (fun s => lbX12_nextToken_85 s) go_fuel μ = some μ' ∧ NF μ μ' ∧ μ'.1 401 7 = nI (tk_end b n x) ∧ μ'.1 401 8 = μ.1 401 8 ∧ μ'.1 401 9 = μ.1 401 9 ∧ ∃ w, μ'.1 401 10 = nI w ∧ VAL w (tk_D b x (tk_end b n x - x)) := by
  have hn := h.2.1
  have ee : tk_end b n x = tk_run tk_dig b n x := by
    rw [tk_run_s hx hd]
    unfold tk_end
    rw [if_neg hl, if_pos hd]
  have hle := tk_run_le (P := tk_dig) (b := b) (show x ≤ n by omega)
  rw [ee]
  exact lp_inv (f := fun s => lbX12_nextToken_85 s)
    (fun s => ∃ y, x ≤ y ∧ y ≤ tk_run tk_dig b n x ∧ s.1 401 7 = nI y ∧ NF μ s ∧ s.1 401 8 = μ.1 401 8 ∧ s.1 401 9 = μ.1 401 9 ∧ ∃ w, s.1 401 10 = nI w ∧ VAL w (tk_D b x (y - x))) (fun s => 301 - (s.1 401 7).toNatClampNeg)
    (fun μ' => NF μ μ' ∧ μ'.1 401 7 = nI (tk_run tk_dig b n x) ∧ μ'.1 401 8 = μ.1 401 8 ∧ μ'.1 401 9 = μ.1 401 9 ∧ ∃ w, μ'.1 401 10 = nI w ∧ VAL w (tk_D b x (tk_run tk_dig b n x - x)))
    (fun s hI => by
      obtain ⟨y, y1, y2, y3, y4, y5, y6, w, y7, y8⟩ := hI
      have hT := h.nf y4
      unfold lbX12_nextToken_85 jjX12_nextToken_135_85
      simp only [go_let]
      rw [y3]
      by_cases hy : y = tk_run tk_dig b n x
      · right
        subst hy
        rcases tk_run_end (P := tk_dig) (b := b) (show x ≤ n by omega) with q | q
        · rw [q_byteE hT (by omega) (by omega), Option.bind_some, if_pos (by decide)]
          exact ⟨s, rfl, y4, y3, y5, y6, w, y7, y8⟩
        · by_cases hyn : tk_run tk_dig b n x = n
          · rw [q_byteE hT (by omega) (by omega), Option.bind_some, if_pos (by decide)]
            exact ⟨s, rfl, y4, y3, y5, y6, w, y7, y8⟩
          · rw [q_byteN hT (by omega), Option.bind_some, q_isFigM _ (hT.2.2 _ (by omega)).2, nb_01, if_neg (by rw [q]; decide)]
            exact ⟨s, rfl, y4, y3, y5, y6, w, y7, y8⟩
      left
      have hP := tk_run_all (P := tk_dig) (b := b) (n := n) y1 (show y < tk_run tk_dig b n x by omega)
      have h256 := (hT.2.2 y (by omega)).2
      have hdv := of_decide_eq_true hP
      obtain ⟨v1, v2, v3⟩ := y8
      have eD : tk_D b x (y + 1 - x) = tk_D b x (y - x) * 10 + (b y - 48) := by
        rw [show y + 1 - x = (y - x) + 1 by omega]
        show tk_D b x (y - x) * 10 + (b (x + (y - x)) - 48) = _
        rw [show x + (y - x) = y by omega]
      rw [q_byteN hT (by omega), Option.bind_some, q_isFigM _ h256, nb_01, if_pos hP, y7]
      have fin : ∀ w', VAL w' (tk_D b x (y - x) * 10 + (b y - 48)) → ∃ s', (some (.inl (pm_wi (pm_wi s 401 10 (nI w')) 401 7 ((pm_wi s 401 10 (nI w')).1 401 7 + 1))) : Option (PM ⊕ PM)) = some (.inl s') ∧ (∃ y, x ≤ y ∧ y ≤ tk_run tk_dig b n x ∧ s'.1 401 7 = nI y ∧ NF μ s' ∧ s'.1 401 8 = μ.1 401 8 ∧ s'.1 401 9 = μ.1 401 9 ∧ ∃ w, s'.1 401 10 = nI w ∧ VAL w (tk_D b x (y - x))) ∧ 301 - (s'.1 401 7).toNatClampNeg < 301 - (nI y).toNatClampNeg := by
        intro w' hw'
        have e7 : (pm_wi s 401 10 (nI w')).1 401 7 + 1 = nI (y + 1) := by
          rw [wi_i (by omega), y3, add_l 1]
        rw [e7]
        refine ⟨_, rfl, ⟨y + 1, by omega, by omega, by rw [wi_r, if_pos ⟨rfl, rfl⟩], (y4.wi (by omega)).wi (Or.inl rfl), by rw [wi_i (by omega), wi_i (by omega)]; exact y5, by rw [wi_i (by omega), wi_i (by omega)]; exact y6, w', by rw [wi_i (by omega), wi_r, if_pos ⟨rfl, rfl⟩], by rw [eD]; exact hw'⟩, by rw [wi_r, if_pos ⟨rfl, rfl⟩, cl_n (show y + 1 < 2147483648 by omega), cl_n (show y < 2147483648 by omega)]; omega⟩
      have hc : nI w ≤ 99999 ↔ w ≤ 99999 := le_l (n := 99999) (by omega) (by omega)
      by_cases hz : w ≤ 99999
      · rw [if_pos (hc.mpr hz), Option.bind_some, l_mul 10, nI_add, sub_l (n := 48) (by omega)]
        refine fin _ ⟨?_, ?_, ?_⟩
        · omega
        · intro q
          have := v2 (by omega)
          omega
        · intro q
          have : w = tk_D b x (y - x) := by
            by_cases z : tk_D b x (y - x) ≤ 99999
            · exact v2 z
            · have := v3 (by omega)
              omega
          omega
      · rw [if_neg (fun q => hz (hc.mp q))]
        refine fin w ⟨v1, fun q => ?_, fun _ => by omega⟩
        have : ¬ tk_D b x (y - x) ≤ 99999 := fun z => by
          have := v2 z
          omega
        omega)
    go_fuel μ ⟨x, by omega, by omega, h7, NF.rfl' μ, rfl, rfl, 0, h0, by omega, fun _ => by rw [Nat.sub_self]; rfl, fun q => by rw [Nat.sub_self] at q; exact absurd q (show ¬ 99999 < 0 by decide)⟩ (by unfold go_fuel; omega)
end NXT
