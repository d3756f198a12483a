/-! ===== a Valley is made ===== -/
theorem bb_callI2 {w : go_Wd} {d bc bs bc0 bs0 : Nat} {μ : go_Mt} {pc : Nat} {lv : List (Nat × Value)} {st : List Value} {B : BB} {Z : go_ZT} {d2 bc2 bs2 b idx n : Nat} {μ2 : go_Mt} {as : List Value} {B' : BB} (hbc : bc2 + bc = bc0) (hbs : bs2 + bs = bs0) (hd : decode μ.2.2.1 pc = .ok (.invokespecial idx, 3)) (hL : go_LI μ.1 idx μ2 n) (hc : Ct w d2 bc2 bs2 μ2 (.ref b :: as) (bm B) (fun r' M' => r' = none ∧ M' = bm B')) (hn : as.length = n) (hdd : d2 + 1 ≤ d) (hst : (st.map fun v => v.category).sum ≤ 8) (hZ : go_up Z) {st0 : List Value} (hs0 : as.reverse ++ .ref b :: st = st0) (hs : stk B.1.length st) (hlv : lvk B.1.length lv)
    (k : Go w d bc bs μ (pc + 3) lv st (bm B') Z) : Go w d bc0 bs0 μ pc lv st0 (bm B) Z := by
  subst hbc hbs
  exact bb_callI hd hL hc hn hdd hst hZ hs0 hs hlv k
theorem bb_callIN2 {w : go_Wd} {d bc bs bc0 bs0 : Nat} {μ : go_Mt} {pc : Nat} {lv : List (Nat × Value)} {st : List Value} {B : BB} {Z : go_ZT} {d2 bc2 bs2 b idx n : Nat} {μ2 : go_Mt} {as : List Value} {B' : BB} (hbc : bc2 + bc = bc0) (hbs : bs2 + bs = bs0) (hd : decode μ.2.2.1 pc = .ok (.invokespecial idx, 3)) (hL : go_LIN μ.1 idx μ2 n) (hc : Ct w d2 bc2 bs2 μ2 (.ref b :: as) (bm B) (fun r' M' => r' = none ∧ M' = bm B')) (hn : as.length = n) (hdd : d2 + 1 ≤ d) (hst : (st.map fun v => v.category).sum ≤ 8) (hZ : go_up Z) {st0 : List Value} (hs0 : as.reverse ++ .ref b :: st = st0) (hs : stk B.1.length st) (hlv : lvk B.1.length lv)
    (k : Go w d bc bs μ (pc + 3) lv st (bm B') Z) : Go w d bc0 bs0 μ pc lv st0 (bm B) Z := by
  subst hbc hbs
  exact bb_callIN hd hL hc hn hdd hst hZ hs0 hs hlv k
def bX9 (B : BB) (c : Nat) : BB :=
  let B1 := b_arr B c 0 6
  let B2 := b_arr B1 c 1 6
  let B3 := b_arr B2 c 2 5
  let B4 := b_arr B3 c 3 5
  let B5 := b_arr B4 c 4 30
  let B6 := b_arr B5 c 5 30
  let c7 := B6.1.length
  let B7 := b_arr B6 c 6 5
  let B8 := b_arr B7 c 7 8
  let B9 := b_arr B8 c 8 8
  let B10 := b_arr B9 c 9 8
  let c11 := B10.1.length
  let B11 := b_nw B10 (10, go_N 10)
  let B12 := bX10 B11 c11
  let B13 := b_wr B12 c 10 (some c11)
  let c14 := B13.1.length
  let B14 := b_nw B13 (7, go_N 7)
  let B15 := bX7 B14 c14
  let B16 := b_wr B15 c 11 (some c14)
  let B17 := b_wi B16 c 14 (-1)
  let B18 := b_wi B17 c 15 10
  let B19 := b_fil B18 c7 (-1) 5
  B19
theorem stX9 {B : BB} {c : Nat} (hW : BW B) (hl : B.1.length < 600000) (h0 : B.1[c]? = some (9, 18)) : ∃ X, X = bX9 B c ∧ BW X ∧ X.1.length = B.1.length + 167 ∧ (∀ (c' : Nat) (k' : Nat × Nat), B.1[c']? = some k' → X.1[c']? = some k') ∧ (∀ c' j', c' < B.1.length → c' ≠ c → brf X c' j' = brf B c' j') ∧ brf X c 10 = some (B.1.length + 10) := by
  have hcl := lt_sh h0
  obtain ⟨B1, e1, W1, m1, K1, R1, v1, s1⟩ := st_arr (c := c) (j := 0) (n := 6) hW (lt_sh h0)
  have l1 : B1.1.length = B.1.length + 1 := by omega
  have h1_c := K1 _ _ h0
  obtain ⟨B2, e2, W2, m2, K2, R2, v2, s2⟩ := st_arr (c := c) (j := 1) (n := 6) W1 (lt_sh h1_c)
  have l2 : B2.1.length = B.1.length + 2 := by omega
  have h2_c := K2 _ _ h1_c
  obtain ⟨B3, e3, W3, m3, K3, R3, v3, s3⟩ := st_arr (c := c) (j := 2) (n := 5) W2 (lt_sh h2_c)
  have l3 : B3.1.length = B.1.length + 3 := by omega
  have h3_c := K3 _ _ h2_c
  obtain ⟨B4, e4, W4, m4, K4, R4, v4, s4⟩ := st_arr (c := c) (j := 3) (n := 5) W3 (lt_sh h3_c)
  have l4 : B4.1.length = B.1.length + 4 := by omega
  have h4_c := K4 _ _ h3_c
  obtain ⟨B5, e5, W5, m5, K5, R5, v5, s5⟩ := st_arr (c := c) (j := 4) (n := 30) W4 (lt_sh h4_c)
  have l5 : B5.1.length = B.1.length + 5 := by omega
  have h5_c := K5 _ _ h4_c
  obtain ⟨B6, e6, W6, m6, K6, R6, v6, s6⟩ := st_arr (c := c) (j := 5) (n := 30) W5 (lt_sh h5_c)
  have l6 : B6.1.length = B.1.length + 6 := by omega
  have h6_c := K6 _ _ h5_c
  obtain ⟨B7, e7, W7, m7, K7, R7, v7, s7⟩ := st_arr (c := c) (j := 6) (n := 5) W6 (lt_sh h6_c)
  have l7 : B7.1.length = B.1.length + 7 := by omega
  have h7_c := K7 _ _ h6_c
  obtain ⟨c7, g7⟩ : ∃ x, x = B6.1.length := ⟨_, rfl⟩
  rw [← g7] at s7 v7
  have q7 : c7 = B.1.length + 6 := by omega
  obtain ⟨B8, e8, W8, m8, K8, R8, v8, s8⟩ := st_arr (c := c) (j := 7) (n := 8) W7 (lt_sh h7_c)
  have l8 : B8.1.length = B.1.length + 8 := by omega
  have h8_c := K8 _ _ h7_c
  have h8_c7 := K8 _ _ s7
  have r8_c_6 := (R8 c 6 (by omega)).trans v7
  obtain ⟨B9, e9, W9, m9, K9, R9, v9, s9⟩ := st_arr (c := c) (j := 8) (n := 8) W8 (lt_sh h8_c)
  have l9 : B9.1.length = B.1.length + 9 := by omega
  have h9_c := K9 _ _ h8_c
  have h9_c7 := K9 _ _ h8_c7
  have r9_c_6 := (R9 c 6 (by omega)).trans r8_c_6
  obtain ⟨B10, e10, W10, m10, K10, R10, v10, s10⟩ := st_arr (c := c) (j := 9) (n := 8) W9 (lt_sh h9_c)
  have l10 : B10.1.length = B.1.length + 10 := by omega
  have h10_c := K10 _ _ h9_c
  have h10_c7 := K10 _ _ h9_c7
  have r10_c_6 := (R10 c 6 (by omega)).trans r9_c_6
  obtain ⟨c11, g11⟩ : ∃ x, x = B10.1.length := ⟨_, rfl⟩
  have q11 : c11 = B.1.length + 10 := by omega
  obtain ⟨B11, e11, W11, m11, K11, R11, s11⟩ := st_nw W10 (10, go_N 10)
  have l11 : B11.1.length = B.1.length + 11 := by omega
  have h11_c := K11 _ _ h10_c
  have h11_c7 := K11 _ _ h10_c7
  have r11_c_6 := (R11 c 6).trans r10_c_6
  rw [← g11] at s11
  obtain ⟨B12, e12, W12, m12, K12, R12⟩ := stX10 W11 (by omega) s11
  have l12 : B12.1.length = B.1.length + 15 := by omega
  have h12_c := K12 _ _ h11_c
  have h12_c7 := K12 _ _ h11_c7
  have h12_c11 := K12 _ _ s11
  have r12_c_6 := (R12 c 6 (by omega) (by omega)).trans r11_c_6
  obtain ⟨B13, e13, W13, m13, K13, R13, v13⟩ := st_wr (c := c) (j := 10) (q := c11) W12 (lt_sh h12_c) (lt_sh h12_c11)
  have l13 : B13.1.length = B.1.length + 15 := by omega
  have h13_c := K13 _ _ h12_c
  have h13_c7 := K13 _ _ h12_c7
  have h13_c11 := K13 _ _ h12_c11
  have r13_c_6 := (R13 c 6 (by omega)).trans r12_c_6
  obtain ⟨c14, g14⟩ : ∃ x, x = B13.1.length := ⟨_, rfl⟩
  have q14 : c14 = B.1.length + 15 := by omega
  obtain ⟨B14, e14, W14, m14, K14, R14, s14⟩ := st_nw W13 (7, go_N 7)
  have l14 : B14.1.length = B.1.length + 16 := by omega
  have h14_c := K14 _ _ h13_c
  have h14_c7 := K14 _ _ h13_c7
  have h14_c11 := K14 _ _ h13_c11
  have r14_c_6 := (R14 c 6).trans r13_c_6
  have r14_c_10 := (R14 c 10).trans v13
  rw [← g14] at s14
  obtain ⟨B15, e15, W15, m15, K15, R15⟩ := stX7 W14 (by omega) s14
  have l15 : B15.1.length = B.1.length + 167 := by omega
  have h15_c := K15 _ _ h14_c
  have h15_c7 := K15 _ _ h14_c7
  have h15_c11 := K15 _ _ h14_c11
  have h15_c14 := K15 _ _ s14
  have r15_c_6 := (R15 c 6 (by omega) (by omega)).trans r14_c_6
  have r15_c_10 := (R15 c 10 (by omega) (by omega)).trans r14_c_10
  obtain ⟨B16, e16, W16, m16, K16, R16, v16⟩ := st_wr (c := c) (j := 11) (q := c14) W15 (lt_sh h15_c) (lt_sh h15_c14)
  have l16 : B16.1.length = B.1.length + 167 := by omega
  have h16_c := K16 _ _ h15_c
  have h16_c7 := K16 _ _ h15_c7
  have h16_c11 := K16 _ _ h15_c11
  have h16_c14 := K16 _ _ h15_c14
  have r16_c_6 := (R16 c 6 (by omega)).trans r15_c_6
  have r16_c_10 := (R16 c 10 (by omega)).trans r15_c_10
  obtain ⟨B17, e17, W17, m17, K17, R17⟩ := st_wi (c := c) (j := 14) (v := (-1)) W16
  have l17 : B17.1.length = B.1.length + 167 := by omega
  have h17_c := K17 _ _ h16_c
  have h17_c7 := K17 _ _ h16_c7
  have h17_c11 := K17 _ _ h16_c11
  have h17_c14 := K17 _ _ h16_c14
  have r17_c_6 := (R17 c 6).trans r16_c_6
  have r17_c_10 := (R17 c 10).trans r16_c_10
  obtain ⟨B18, e18, W18, m18, K18, R18⟩ := st_wi (c := c) (j := 15) (v := 10) W17
  have l18 : B18.1.length = B.1.length + 167 := by omega
  have h18_c := K18 _ _ h17_c
  have h18_c7 := K18 _ _ h17_c7
  have h18_c11 := K18 _ _ h17_c11
  have h18_c14 := K18 _ _ h17_c14
  have r18_c_6 := (R18 c 6).trans r17_c_6
  have r18_c_10 := (R18 c 10).trans r17_c_10
  obtain ⟨B19, e19, W19, m19, K19, R19⟩ := st_fil (a := c7) (v := (-1)) W18
  have l19 : B19.1.length = B.1.length + 167 := by omega
  have h19_c := K19 _ _ h18_c
  have h19_c7 := K19 _ _ h18_c7
  have h19_c11 := K19 _ _ h18_c11
  have h19_c14 := K19 _ _ h18_c14
  have r19_c_6 := (R19 c 6).trans r18_c_6
  have r19_c_10 := (R19 c 10).trans r18_c_10
  have eX : B19 = bX9 B c := by rw [e19, e18, e17, e16, e15, e14, g14, e13, e12, e11, g11, e10, e9, e8, e7, g7, e6, e5, e4, e3, e2, e1]; rfl
  refine ⟨B19, eX, W19, l19, fun c' k' h' => (K19 _ _ (K18 _ _ (K17 _ _ (K16 _ _ (K15 _ _ (K14 _ _ (K13 _ _ (K12 _ _ (K11 _ _ (K10 _ _ (K9 _ _ (K8 _ _ (K7 _ _ (K6 _ _ (K5 _ _ (K4 _ _ (K3 _ _ (K2 _ _ (K1 _ _ h'))))))))))))))))))), fun c' j' p1 p2 => ((R19 _ _).trans ((R18 _ _).trans ((R17 _ _).trans ((R16 _ _ (by omega)).trans ((R15 _ _ (by omega) (by omega)).trans ((R14 _ _).trans ((R13 _ _ (by omega)).trans ((R12 _ _ (by omega) (by omega)).trans ((R11 _ _).trans ((R10 _ _ (by omega)).trans ((R9 _ _ (by omega)).trans ((R8 _ _ (by omega)).trans ((R7 _ _ (by omega)).trans ((R6 _ _ (by omega)).trans ((R5 _ _ (by omega)).trans ((R4 _ _ (by omega)).trans ((R3 _ _ (by omega)).trans ((R2 _ _ (by omega)).trans (R1 _ _ (by omega)))))))))))))))))))), ?_⟩
  rw [show (B.1.length + 10) = c11 by omega]
  exact r19_c_10
theorem ci_X9 {w : go_Wd} {B : BB} {c : Nat} (hW : BW B) (hl : B.1.length < 600000) (h0 : B.1[c]? = some (9, 18)) : Ct w 3 167 1942 mtX9_init [.ref c] (bm B) (fun r' M' => r' = none ∧ M' = bm (bX9 B c)) := by
  have hcl := lt_sh h0
  refine go_entry rfl (by decide) (Nat.le_of_ble_eq_true rfl) ?_
  show Go w 3 167 1942 mtX9_init 0 [(0, .ref c)] [] (bm B) (go_Z w _)
  refine go_aload_n dX9_init_0 0 rfl ?_
  refine go_objInit dX9_init_1 oo_X9_3 (Nat.le_of_ble_eq_true rfl) (Nat.le_of_ble_eq_true rfl) ?_
  refine go_aload_n dX9_init_4 0 rfl ?_
  refine go_bipush (v := 6) dX9_init_5 (by decide) ?_
  refine bb_na (bc := 166) (bs := 1936) (n := 6) dX9_init_7 dX9_init_9 ff_X9_9 rfl rfl (by decide) (by decide) (by omega) (go_Z_up w _) hW (by omega) h0 (lvk_r (lt_sh h0) (lvk_nil _)) ?_
  obtain ⟨B1, e1, W1, m1, K1, R1, v1, s1⟩ := st_arr (c := c) (j := 0) (n := 6) hW (lt_sh h0)
  rw [← e1]
  have l1 : B1.1.length = B.1.length + 1 := by omega
  have h1_c := K1 _ _ h0
  show Go w 3 166 1936 mtX9_init 12 [(0, .ref c)] [] (bm B1) (go_Z w _)
  refine go_aload_n dX9_init_12 0 rfl ?_
  refine go_bipush (v := 6) dX9_init_13 (by decide) ?_
  refine bb_na (bc := 165) (bs := 1930) (n := 6) dX9_init_15 dX9_init_17 ff_X9_15 rfl rfl (by decide) (by decide) (by omega) (go_Z_up w _) W1 (by omega) h1_c (lvk_r (lt_sh h1_c) (lvk_nil _)) ?_
  obtain ⟨B2, e2, W2, m2, K2, R2, v2, s2⟩ := st_arr (c := c) (j := 1) (n := 6) W1 (lt_sh h1_c)
  rw [← e2]
  have l2 : B2.1.length = B.1.length + 2 := by omega
  have h2_c := K2 _ _ h1_c
  show Go w 3 165 1930 mtX9_init 20 [(0, .ref c)] [] (bm B2) (go_Z w _)
  refine go_aload_n dX9_init_20 0 rfl ?_
  refine go_iconst (v := 5) dX9_init_21 (by decide) ?_
  refine bb_na (bc := 164) (bs := 1925) (n := 5) dX9_init_22 dX9_init_24 ff_X9_18 rfl rfl (by decide) (by decide) (by omega) (go_Z_up w _) W2 (by omega) h2_c (lvk_r (lt_sh h2_c) (lvk_nil _)) ?_
  obtain ⟨B3, e3, W3, m3, K3, R3, v3, s3⟩ := st_arr (c := c) (j := 2) (n := 5) W2 (lt_sh h2_c)
  rw [← e3]
  have l3 : B3.1.length = B.1.length + 3 := by omega
  have h3_c := K3 _ _ h2_c
  show Go w 3 164 1925 mtX9_init 27 [(0, .ref c)] [] (bm B3) (go_Z w _)
  refine go_aload_n dX9_init_27 0 rfl ?_
  refine go_iconst (v := 5) dX9_init_28 (by decide) ?_
  refine bb_na (bc := 163) (bs := 1920) (n := 5) dX9_init_29 dX9_init_31 ff_X9_21 rfl rfl (by decide) (by decide) (by omega) (go_Z_up w _) W3 (by omega) h3_c (lvk_r (lt_sh h3_c) (lvk_nil _)) ?_
  obtain ⟨B4, e4, W4, m4, K4, R4, v4, s4⟩ := st_arr (c := c) (j := 3) (n := 5) W3 (lt_sh h3_c)
  rw [← e4]
  have l4 : B4.1.length = B.1.length + 4 := by omega
  have h4_c := K4 _ _ h3_c
  show Go w 3 163 1920 mtX9_init 34 [(0, .ref c)] [] (bm B4) (go_Z w _)
  refine go_aload_n dX9_init_34 0 rfl ?_
  refine go_bipush (v := 30) dX9_init_35 (by decide) ?_
  refine bb_na (bc := 162) (bs := 1890) (n := 30) dX9_init_37 dX9_init_39 ff_X9_24 rfl rfl (by decide) (by decide) (by omega) (go_Z_up w _) W4 (by omega) h4_c (lvk_r (lt_sh h4_c) (lvk_nil _)) ?_
  obtain ⟨B5, e5, W5, m5, K5, R5, v5, s5⟩ := st_arr (c := c) (j := 4) (n := 30) W4 (lt_sh h4_c)
  rw [← e5]
  have l5 : B5.1.length = B.1.length + 5 := by omega
  have h5_c := K5 _ _ h4_c
  show Go w 3 162 1890 mtX9_init 42 [(0, .ref c)] [] (bm B5) (go_Z w _)
  refine go_aload_n dX9_init_42 0 rfl ?_
  refine go_bipush (v := 30) dX9_init_43 (by decide) ?_
  refine bb_na (bc := 161) (bs := 1860) (n := 30) dX9_init_45 dX9_init_47 ff_X9_27 rfl rfl (by decide) (by decide) (by omega) (go_Z_up w _) W5 (by omega) h5_c (lvk_r (lt_sh h5_c) (lvk_nil _)) ?_
  obtain ⟨B6, e6, W6, m6, K6, R6, v6, s6⟩ := st_arr (c := c) (j := 5) (n := 30) W5 (lt_sh h5_c)
  rw [← e6]
  have l6 : B6.1.length = B.1.length + 6 := by omega
  have h6_c := K6 _ _ h5_c
  show Go w 3 161 1860 mtX9_init 50 [(0, .ref c)] [] (bm B6) (go_Z w _)
  refine go_aload_n dX9_init_50 0 rfl ?_
  refine go_iconst (v := 5) dX9_init_51 (by decide) ?_
  refine bb_na (bc := 160) (bs := 1855) (n := 5) dX9_init_52 dX9_init_54 ff_X9_30 rfl rfl (by decide) (by decide) (by omega) (go_Z_up w _) W6 (by omega) h6_c (lvk_r (lt_sh h6_c) (lvk_nil _)) ?_
  obtain ⟨B7, e7, W7, m7, K7, R7, v7, s7⟩ := st_arr (c := c) (j := 6) (n := 5) W6 (lt_sh h6_c)
  rw [← e7]
  have l7 : B7.1.length = B.1.length + 7 := by omega
  have h7_c := K7 _ _ h6_c
  obtain ⟨c7, g7⟩ : ∃ x, x = B6.1.length := ⟨_, rfl⟩
  rw [← g7] at s7 v7
  have q7 : c7 = B.1.length + 6 := by omega
  show Go w 3 160 1855 mtX9_init 57 [(0, .ref c)] [] (bm B7) (go_Z w _)
  refine go_aload_n dX9_init_57 0 rfl ?_
  refine go_bipush (v := 8) dX9_init_58 (by decide) ?_
  refine bb_na (bc := 159) (bs := 1847) (n := 8) dX9_init_60 dX9_init_62 ff_X9_33 rfl rfl (by decide) (by decide) (by omega) (go_Z_up w _) W7 (by omega) h7_c (lvk_r (lt_sh h7_c) (lvk_nil _)) ?_
  obtain ⟨B8, e8, W8, m8, K8, R8, v8, s8⟩ := st_arr (c := c) (j := 7) (n := 8) W7 (lt_sh h7_c)
  rw [← e8]
  have l8 : B8.1.length = B.1.length + 8 := by omega
  have h8_c := K8 _ _ h7_c
  have h8_c7 := K8 _ _ s7
  have r8_c_6 := (R8 c 6 (by omega)).trans v7
  show Go w 3 159 1847 mtX9_init 65 [(0, .ref c)] [] (bm B8) (go_Z w _)
  refine go_aload_n dX9_init_65 0 rfl ?_
  refine go_bipush (v := 8) dX9_init_66 (by decide) ?_
  refine bb_na (bc := 158) (bs := 1839) (n := 8) dX9_init_68 dX9_init_70 ff_X9_36 rfl rfl (by decide) (by decide) (by omega) (go_Z_up w _) W8 (by omega) h8_c (lvk_r (lt_sh h8_c) (lvk_nil _)) ?_
  obtain ⟨B9, e9, W9, m9, K9, R9, v9, s9⟩ := st_arr (c := c) (j := 8) (n := 8) W8 (lt_sh h8_c)
  rw [← e9]
  have l9 : B9.1.length = B.1.length + 9 := by omega
  have h9_c := K9 _ _ h8_c
  have h9_c7 := K9 _ _ h8_c7
  have r9_c_6 := (R9 c 6 (by omega)).trans r8_c_6
  show Go w 3 158 1839 mtX9_init 73 [(0, .ref c)] [] (bm B9) (go_Z w _)
  refine go_aload_n dX9_init_73 0 rfl ?_
  refine go_bipush (v := 8) dX9_init_74 (by decide) ?_
  refine bb_na (bc := 157) (bs := 1831) (n := 8) dX9_init_76 dX9_init_78 ff_X9_39 rfl rfl (by decide) (by decide) (by omega) (go_Z_up w _) W9 (by omega) h9_c (lvk_r (lt_sh h9_c) (lvk_nil _)) ?_
  obtain ⟨B10, e10, W10, m10, K10, R10, v10, s10⟩ := st_arr (c := c) (j := 9) (n := 8) W9 (lt_sh h9_c)
  rw [← e10]
  have l10 : B10.1.length = B.1.length + 10 := by omega
  have h10_c := K10 _ _ h9_c
  have h10_c7 := K10 _ _ h9_c7
  have r10_c_6 := (R10 c 6 (by omega)).trans r9_c_6
  show Go w 3 157 1831 mtX9_init 81 [(0, .ref c)] [] (bm B10) (go_Z w _)
  refine go_aload_n dX9_init_81 0 rfl ?_
  refine bb_new2 (μ := mtX9_init) (bc := 156) (bs := 1820) (by decide +kernel) (by decide +kernel) dX9_init_82 cn_X9_42 (go_Z_up w _) W10 (by omega) (stk_r (lt_sh h10_c) (stk_nil _)) (lvk_r (lt_sh h10_c) (lvk_nil _)) ?_
  obtain ⟨c11, g11⟩ : ∃ x, x = B10.1.length := ⟨_, rfl⟩
  rw [← g11]
  have q11 : c11 = B.1.length + 10 := by omega
  obtain ⟨B11, e11, W11, m11, K11, R11, s11⟩ := st_nw W10 (10, go_N 10)
  rw [← e11]
  have l11 : B11.1.length = B.1.length + 11 := by omega
  have h11_c := K11 _ _ h10_c
  have h11_c7 := K11 _ _ h10_c7
  have r11_c_6 := (R11 c 6).trans r10_c_6
  rw [← g11] at s11
  show Go w 3 156 1820 mtX9_init 85 [(0, .ref c)] [.ref c11, .ref c] (bm B11) (go_Z w _)
  refine go_dup dX9_init_85 rfl ?_
  refine bb_callIN2 (μ := mtX9_init) (bc := 152) (bs := 1773) (bc2 := 4) (bs2 := 47) (b := c11) (as := []) (st := [.ref c11, .ref c]) (B' := bX10 B11 c11) (by decide +kernel) (by decide +kernel) dX9_init_86 ll_X9_44 (ci_X10 W11 (by omega) s11) rfl (Nat.le_of_ble_eq_true rfl) (Nat.le_of_ble_eq_true rfl) (go_Z_up w _) rfl (stk_r (lt_sh s11) (stk_r (lt_sh h11_c) (stk_nil _))) (lvk_r (lt_sh h11_c) (lvk_nil _)) ?_
  obtain ⟨B12, e12, W12, m12, K12, R12⟩ := stX10 W11 (by omega) s11
  rw [← e12]
  have l12 : B12.1.length = B.1.length + 15 := by omega
  have h12_c := K12 _ _ h11_c
  have h12_c7 := K12 _ _ h11_c7
  have h12_c11 := K12 _ _ s11
  have r12_c_6 := (R12 c 6 (by omega) (by omega)).trans r11_c_6
  show Go w 3 152 1773 mtX9_init 89 [(0, .ref c)] [.ref c11, .ref c] (bm B12) (go_Z w _)
  refine bb_putR dX9_init_89 ff_X9_45 rfl rfl (Or.inl ⟨_, rfl⟩) W12 h12_c ?_
  obtain ⟨B13, e13, W13, m13, K13, R13, v13⟩ := st_wr (c := c) (j := 10) (q := c11) W12 (lt_sh h12_c) (lt_sh h12_c11)
  rw [← e13]
  have l13 : B13.1.length = B.1.length + 15 := by omega
  have h13_c := K13 _ _ h12_c
  have h13_c7 := K13 _ _ h12_c7
  have h13_c11 := K13 _ _ h12_c11
  have r13_c_6 := (R13 c 6 (by omega)).trans r12_c_6
  show Go w 3 152 1773 mtX9_init 92 [(0, .ref c)] [] (bm B13) (go_Z w _)
  refine go_aload_n dX9_init_92 0 rfl ?_
  refine bb_new2 (μ := mtX9_init) (bc := 151) (bs := 1770) (by decide +kernel) (by decide +kernel) dX9_init_93 cn_X9_49 (go_Z_up w _) W13 (by omega) (stk_r (lt_sh h13_c) (stk_nil _)) (lvk_r (lt_sh h13_c) (lvk_nil _)) ?_
  obtain ⟨c14, g14⟩ : ∃ x, x = B13.1.length := ⟨_, rfl⟩
  rw [← g14]
  have q14 : c14 = B.1.length + 15 := by omega
  obtain ⟨B14, e14, W14, m14, K14, R14, s14⟩ := st_nw W13 (7, go_N 7)
  rw [← e14]
  have l14 : B14.1.length = B.1.length + 16 := by omega
  have h14_c := K14 _ _ h13_c
  have h14_c7 := K14 _ _ h13_c7
  have h14_c11 := K14 _ _ h13_c11
  have r14_c_6 := (R14 c 6).trans r13_c_6
  have r14_c_10 := (R14 c 10).trans v13
  rw [← g14] at s14
  show Go w 3 151 1770 mtX9_init 96 [(0, .ref c)] [.ref c14, .ref c] (bm B14) (go_Z w _)
  refine go_dup dX9_init_96 rfl ?_
  refine bb_callI2 (μ := mtX9_init) (bc := 0) (bs := 0) (bc2 := 151) (bs2 := 1770) (b := c14) (as := []) (st := [.ref c14, .ref c]) (B' := bX7 B14 c14) (by decide +kernel) (by decide +kernel) dX9_init_97 ll_X9_51 (ci_X7 W14 (by omega) s14) rfl (Nat.le_of_ble_eq_true rfl) (Nat.le_of_ble_eq_true rfl) (go_Z_up w _) rfl (stk_r (lt_sh s14) (stk_r (lt_sh h14_c) (stk_nil _))) (lvk_r (lt_sh h14_c) (lvk_nil _)) ?_
  obtain ⟨B15, e15, W15, m15, K15, R15⟩ := stX7 W14 (by omega) s14
  rw [← e15]
  have l15 : B15.1.length = B.1.length + 167 := by omega
  have h15_c := K15 _ _ h14_c
  have h15_c7 := K15 _ _ h14_c7
  have h15_c11 := K15 _ _ h14_c11
  have h15_c14 := K15 _ _ s14
  have r15_c_6 := (R15 c 6 (by omega) (by omega)).trans r14_c_6
  have r15_c_10 := (R15 c 10 (by omega) (by omega)).trans r14_c_10
  show Go w 3 0 0 mtX9_init 100 [(0, .ref c)] [.ref c14, .ref c] (bm B15) (go_Z w _)
  refine bb_putR dX9_init_100 ff_X9_52 rfl rfl (Or.inl ⟨_, rfl⟩) W15 h15_c ?_
  obtain ⟨B16, e16, W16, m16, K16, R16, v16⟩ := st_wr (c := c) (j := 11) (q := c14) W15 (lt_sh h15_c) (lt_sh h15_c14)
  rw [← e16]
  have l16 : B16.1.length = B.1.length + 167 := by omega
  have h16_c := K16 _ _ h15_c
  have h16_c7 := K16 _ _ h15_c7
  have h16_c11 := K16 _ _ h15_c11
  have h16_c14 := K16 _ _ h15_c14
  have r16_c_6 := (R16 c 6 (by omega)).trans r15_c_6
  have r16_c_10 := (R16 c 10 (by omega)).trans r15_c_10
  show Go w 3 0 0 mtX9_init 103 [(0, .ref c)] [] (bm B16) (go_Z w _)
  refine go_aload_n dX9_init_103 0 rfl ?_
  refine go_iconst (v := (-1)) dX9_init_104 (by decide) ?_
  refine bb_putI dX9_init_105 ff_X9_56 (Or.inl rfl) W16 h16_c ?_
  obtain ⟨B17, e17, W17, m17, K17, R17⟩ := st_wi (c := c) (j := 14) (v := (-1)) W16
  rw [← e17]
  have l17 : B17.1.length = B.1.length + 167 := by omega
  have h17_c := K17 _ _ h16_c
  have h17_c7 := K17 _ _ h16_c7
  have h17_c11 := K17 _ _ h16_c11
  have h17_c14 := K17 _ _ h16_c14
  have r17_c_6 := (R17 c 6).trans r16_c_6
  have r17_c_10 := (R17 c 10).trans r16_c_10
  show Go w 3 0 0 mtX9_init 108 [(0, .ref c)] [] (bm B17) (go_Z w _)
  refine go_aload_n dX9_init_108 0 rfl ?_
  refine go_bipush (v := 10) dX9_init_109 (by decide) ?_
  refine bb_putI dX9_init_111 ff_X9_60 (Or.inl rfl) W17 h17_c ?_
  obtain ⟨B18, e18, W18, m18, K18, R18⟩ := st_wi (c := c) (j := 15) (v := 10) W17
  rw [← e18]
  have l18 : B18.1.length = B.1.length + 167 := by omega
  have h18_c := K18 _ _ h17_c
  have h18_c7 := K18 _ _ h17_c7
  have h18_c11 := K18 _ _ h17_c11
  have h18_c14 := K18 _ _ h17_c14
  have r18_c_6 := (R18 c 6).trans r17_c_6
  have r18_c_10 := (R18 c 10).trans r17_c_10
  show Go w 3 0 0 mtX9_init 114 [(0, .ref c)] [] (bm B18) (go_Z w _)
  refine go_aload_n dX9_init_114 0 rfl ?_
  refine go_getR dX9_init_115 ff_X9_30 (Or.inr ⟨_, rfl⟩) (show B18.1[c]? = some (9, 18) from h18_c) (show brf B18 c 6 = some c7 from r18_c_6) ?_
  refine go_iconst (v := (-1)) dX9_init_118 (by decide) ?_
  refine bb_fill dX9_init_119 ll_X9_63 W18 (by omega) h18_c7 (by decide) (go_Z_up w _) ?_
  obtain ⟨B19, e19, W19, m19, K19, R19⟩ := st_fil (a := c7) (v := (-1)) W18
  rw [← e19]
  have l19 : B19.1.length = B.1.length + 167 := by omega
  have h19_c := K19 _ _ h18_c
  have h19_c7 := K19 _ _ h18_c7
  have h19_c11 := K19 _ _ h18_c11
  have h19_c14 := K19 _ _ h18_c14
  have r19_c_6 := (R19 c 6).trans r18_c_6
  have r19_c_10 := (R19 c 10).trans r18_c_10
  show Go w 3 0 0 mtX9_init 122 [(0, .ref c)] [] (bm B19) (go_Z w _)
  exact go_vret dX9_init_122 rfl ⟨rfl, by rw [e19, e18, e17, e16, e15, e14, g14, e13, e12, e11, g11, e10, e9, e8, e7, g7, e6, e5, e4, e3, e2, e1]; rfl⟩
