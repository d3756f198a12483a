/-! ===== NamesInMelt is made ===== -/
def bX11 (B : BB) (c : Nat) : BB :=
  let c1 := B.1.length
  let B1 := b_nw B (9, go_N 9)
  let B2 := bX9 B1 c1
  let cw := B1.1.length + 10
  let B3 := b_wr B2 c 0 (some c1)
  let B4 := b_wr B3 c 1 (some cw)
  let c5 := B4.1.length
  let B5 := b_nw B4 (9, go_N 9)
  let B6 := bX9 B5 c5
  let B7 := b_wr B6 c 2 (some c5)
  let c8 := B7.1.length
  let B8 := b_nw B7 (10, go_N 10)
  let B9 := bX10 B8 c8
  let B10 := b_wr B9 c 3 (some c8)
  let c11 := B10.1.length
  let B11 := b_nw B10 (103, 4)
  let B12 := b_wr B11 c 4 (some c11)
  let c13 := B12.1.length
  let B13 := b_nw B12 (8, go_N 8)
  let B14 := bX8 B13 c13
  let B15 := b_wr B14 c11 0 (some c13)
  let c16 := B15.1.length
  let B16 := b_nw B15 (8, go_N 8)
  let B17 := bX8 B16 c16
  let B18 := b_wr B17 c11 1 (some c16)
  let c19 := B18.1.length
  let B19 := b_nw B18 (8, go_N 8)
  let B20 := bX8 B19 c19
  let B21 := b_wr B20 c11 2 (some c19)
  let c22 := B21.1.length
  let B22 := b_nw B21 (8, go_N 8)
  let B23 := bX8 B22 c22
  let B24 := b_wr B23 c11 3 (some c22)
  let c25 := B24.1.length
  let B25 := b_arr B24 c 5 300
  let c26 := B25.1.length
  let B26 := b_nw B25 (6, go_N 6)
  let B27 := bX6 B26 c26 c25
  let B28 := b_wr B27 c 6 (some c26)
  let c29 := B28.1.length
  let B29 := b_nw B28 (2, go_N 2)
  let B30 := bX2 B29 c29 c1
  let B31 := b_wr B30 c 7 (some c29)
  let c32 := B31.1.length
  let B32 := b_nw B31 (0, go_N 0)
  let B33 := bX0 B32 c32 c1 c29
  let B34 := b_wr B33 c 8 (some c32)
  let c35 := B34.1.length
  let B35 := b_nw B34 (4, go_N 4)
  let B36 := bX4 B35 c35 c1
  let B37 := b_wr B36 c 9 (some c35)
  let c38 := B37.1.length
  let B38 := b_nw B37 (1, go_N 1)
  let B39 := bX1 B38 c38 c1
  let B40 := b_wr B39 c 10 (some c38)
  let c41 := B40.1.length
  let B41 := b_nw B40 (3, go_N 3)
  let B42 := bX3 B41 c41 c1
  let B43 := b_wr B42 c 11 (some c41)
  let c44 := B43.1.length
  let B44 := b_nw B43 (5, go_N 5)
  let B45 := bX5 B44 c44 c29
  let B46 := b_wr B45 c 12 (some c44)
  let B47 := b_wi B46 c 16 (-1)
  B47
theorem stX11 {B : BB} {c : Nat} (hW : BW B) (hl : B.1.length < 500000) (h0 : B.1[c]? = some (11, 17)) : ∃ X, X = bX11 B c ∧ BW X ∧ X.1.length = B.1.length + 400 ∧ (∀ (c' : Nat) (k' : Nat × Nat), B.1[c']? = some k' → X.1[c']? = some k') ∧ (∀ c' j', c' < B.1.length → c' ≠ c → brf X c' j' = brf B c' j') := by
  have hcl := lt_sh h0
  obtain ⟨c1, g1⟩ : ∃ x, x = B.1.length := ⟨_, rfl⟩
  obtain ⟨B1, e1, W1, m1, K1, R1, s1⟩ := st_nw hW (9, go_N 9)
  have l1 : B1.1.length = B.1.length + 1 := by omega
  have h1_c := K1 _ _ h0
  rw [← g1] at s1
  obtain ⟨B2, e2, W2, m2, K2, R2, v2⟩ := stX9 W1 (by omega) s1
  have l2 : B2.1.length = B.1.length + 168 := by omega
  have h2_c := K2 _ _ h1_c
  have h2_c1 := K2 _ _ s1
  obtain ⟨cw, gw⟩ : ∃ x, x = B1.1.length + 10 := ⟨_, rfl⟩
  rw [← gw] at v2
  have qw : cw = B.1.length + 11 := by omega
  obtain ⟨B3, e3, W3, m3, K3, R3, v3⟩ := st_wr (c := c) (j := 0) (q := c1) W2 (lt_sh h2_c) (lt_sh h2_c1)
  have l3 : B3.1.length = B.1.length + 168 := by omega
  have h3_c := K3 _ _ h2_c
  have h3_c1 := K3 _ _ h2_c1
  have r3_c1_10 := (R3 c1 10 (by omega)).trans v2
  obtain ⟨B4, e4, W4, m4, K4, R4, v4⟩ := st_wr (c := c) (j := 1) (q := cw) W3 (lt_sh h3_c) (by omega)
  have l4 : B4.1.length = B.1.length + 168 := by omega
  have h4_c := K4 _ _ h3_c
  have h4_c1 := K4 _ _ h3_c1
  have r4_c1_10 := (R4 c1 10 (by omega)).trans r3_c1_10
  have r4_c_0 := (R4 c 0 (by omega)).trans v3
  obtain ⟨c5, g5⟩ : ∃ x, x = B4.1.length := ⟨_, rfl⟩
  have q5 : c5 = B.1.length + 168 := by omega
  obtain ⟨B5, e5, W5, m5, K5, R5, s5⟩ := st_nw W4 (9, go_N 9)
  have l5 : B5.1.length = B.1.length + 169 := by omega
  have h5_c := K5 _ _ h4_c
  have h5_c1 := K5 _ _ h4_c1
  have r5_c1_10 := (R5 c1 10).trans r4_c1_10
  have r5_c_0 := (R5 c 0).trans r4_c_0
  rw [← g5] at s5
  obtain ⟨B6, e6, W6, m6, K6, R6, v6⟩ := stX9 W5 (by omega) s5
  have l6 : B6.1.length = B.1.length + 336 := by omega
  have h6_c := K6 _ _ h5_c
  have h6_c1 := K6 _ _ h5_c1
  have h6_c5 := K6 _ _ s5
  have r6_c1_10 := (R6 c1 10 (by omega) (by omega)).trans r5_c1_10
  have r6_c_0 := (R6 c 0 (by omega) (by omega)).trans r5_c_0
  obtain ⟨B7, e7, W7, m7, K7, R7, v7⟩ := st_wr (c := c) (j := 2) (q := c5) W6 (lt_sh h6_c) (lt_sh h6_c5)
  have l7 : B7.1.length = B.1.length + 336 := by omega
  have h7_c := K7 _ _ h6_c
  have h7_c1 := K7 _ _ h6_c1
  have h7_c5 := K7 _ _ h6_c5
  have r7_c1_10 := (R7 c1 10 (by omega)).trans r6_c1_10
  have r7_c_0 := (R7 c 0 (by omega)).trans r6_c_0
  obtain ⟨c8, g8⟩ : ∃ x, x = B7.1.length := ⟨_, rfl⟩
  have q8 : c8 = B.1.length + 336 := by omega
  obtain ⟨B8, e8, W8, m8, K8, R8, s8⟩ := st_nw W7 (10, go_N 10)
  have l8 : B8.1.length = B.1.length + 337 := by omega
  have h8_c := K8 _ _ h7_c
  have h8_c1 := K8 _ _ h7_c1
  have h8_c5 := K8 _ _ h7_c5
  have r8_c1_10 := (R8 c1 10).trans r7_c1_10
  have r8_c_0 := (R8 c 0).trans r7_c_0
  rw [← g8] at s8
  obtain ⟨B9, e9, W9, m9, K9, R9⟩ := stX10 W8 (by omega) s8
  have l9 : B9.1.length = B.1.length + 341 := by omega
  have h9_c := K9 _ _ h8_c
  have h9_c1 := K9 _ _ h8_c1
  have h9_c5 := K9 _ _ h8_c5
  have h9_c8 := K9 _ _ s8
  have r9_c1_10 := (R9 c1 10 (by omega) (by omega)).trans r8_c1_10
  have r9_c_0 := (R9 c 0 (by omega) (by omega)).trans r8_c_0
  obtain ⟨B10, e10, W10, m10, K10, R10, v10⟩ := st_wr (c := c) (j := 3) (q := c8) W9 (lt_sh h9_c) (lt_sh h9_c8)
  have l10 : B10.1.length = B.1.length + 341 := by omega
  have h10_c := K10 _ _ h9_c
  have h10_c1 := K10 _ _ h9_c1
  have h10_c5 := K10 _ _ h9_c5
  have h10_c8 := K10 _ _ h9_c8
  have r10_c1_10 := (R10 c1 10 (by omega)).trans r9_c1_10
  have r10_c_0 := (R10 c 0 (by omega)).trans r9_c_0
  obtain ⟨c11, g11⟩ : ∃ x, x = B10.1.length := ⟨_, rfl⟩
  have q11 : c11 = B.1.length + 341 := by omega
  obtain ⟨B11, e11, W11, m11, K11, R11, s11⟩ := st_nw W10 (103, 4)
  have l11 : B11.1.length = B.1.length + 342 := by omega
  have h11_c := K11 _ _ h10_c
  have h11_c1 := K11 _ _ h10_c1
  have h11_c5 := K11 _ _ h10_c5
  have h11_c8 := K11 _ _ h10_c8
  have r11_c1_10 := (R11 c1 10).trans r10_c1_10
  have r11_c_0 := (R11 c 0).trans r10_c_0
  rw [← g11] at s11
  obtain ⟨B12, e12, W12, m12, K12, R12, v12⟩ := st_wr (c := c) (j := 4) (q := c11) W11 (lt_sh h11_c) (lt_sh s11)
  have l12 : B12.1.length = B.1.length + 342 := by omega
  have h12_c := K12 _ _ h11_c
  have h12_c1 := K12 _ _ h11_c1
  have h12_c5 := K12 _ _ h11_c5
  have h12_c8 := K12 _ _ h11_c8
  have h12_c11 := K12 _ _ s11
  have r12_c1_10 := (R12 c1 10 (by omega)).trans r11_c1_10
  have r12_c_0 := (R12 c 0 (by omega)).trans r11_c_0
  obtain ⟨c13, g13⟩ : ∃ x, x = B12.1.length := ⟨_, rfl⟩
  have q13 : c13 = B.1.length + 342 := by omega
  obtain ⟨B13, e13, W13, m13, K13, R13, s13⟩ := st_nw W12 (8, go_N 8)
  have l13 : B13.1.length = B.1.length + 343 := by omega
  have h13_c := K13 _ _ h12_c
  have h13_c1 := K13 _ _ h12_c1
  have h13_c5 := K13 _ _ h12_c5
  have h13_c8 := K13 _ _ h12_c8
  have h13_c11 := K13 _ _ h12_c11
  have r13_c1_10 := (R13 c1 10).trans r12_c1_10
  have r13_c_0 := (R13 c 0).trans r12_c_0
  have r13_c_4 := (R13 c 4).trans v12
  rw [← g13] at s13
  obtain ⟨B14, e14, W14, m14, K14, R14⟩ := stX8 W13 (by omega) s13
  have l14 : B14.1.length = B.1.length + 349 := by omega
  have h14_c := K14 _ _ h13_c
  have h14_c1 := K14 _ _ h13_c1
  have h14_c5 := K14 _ _ h13_c5
  have h14_c8 := K14 _ _ h13_c8
  have h14_c11 := K14 _ _ h13_c11
  have h14_c13 := K14 _ _ s13
  have r14_c1_10 := (R14 c1 10 (by omega) (by omega)).trans r13_c1_10
  have r14_c_0 := (R14 c 0 (by omega) (by omega)).trans r13_c_0
  have r14_c_4 := (R14 c 4 (by omega) (by omega)).trans r13_c_4
  obtain ⟨B15, e15, W15, m15, K15, R15, v15⟩ := st_wr (c := c11) (j := 0) (q := c13) W14 (lt_sh h14_c11) (lt_sh h14_c13)
  have l15 : B15.1.length = B.1.length + 349 := by omega
  have h15_c := K15 _ _ h14_c
  have h15_c1 := K15 _ _ h14_c1
  have h15_c5 := K15 _ _ h14_c5
  have h15_c8 := K15 _ _ h14_c8
  have h15_c11 := K15 _ _ h14_c11
  have h15_c13 := K15 _ _ h14_c13
  have r15_c1_10 := (R15 c1 10 (by omega)).trans r14_c1_10
  have r15_c_0 := (R15 c 0 (by omega)).trans r14_c_0
  have r15_c_4 := (R15 c 4 (by omega)).trans r14_c_4
  obtain ⟨c16, g16⟩ : ∃ x, x = B15.1.length := ⟨_, rfl⟩
  have q16 : c16 = B.1.length + 349 := by omega
  obtain ⟨B16, e16, W16, m16, K16, R16, s16⟩ := st_nw W15 (8, go_N 8)
  have l16 : B16.1.length = B.1.length + 350 := by omega
  have h16_c := K16 _ _ h15_c
  have h16_c1 := K16 _ _ h15_c1
  have h16_c5 := K16 _ _ h15_c5
  have h16_c8 := K16 _ _ h15_c8
  have h16_c11 := K16 _ _ h15_c11
  have h16_c13 := K16 _ _ h15_c13
  have r16_c1_10 := (R16 c1 10).trans r15_c1_10
  have r16_c_0 := (R16 c 0).trans r15_c_0
  have r16_c_4 := (R16 c 4).trans r15_c_4
  rw [← g16] at s16
  obtain ⟨B17, e17, W17, m17, K17, R17⟩ := stX8 W16 (by omega) s16
  have l17 : B17.1.length = B.1.length + 356 := by omega
  have h17_c := K17 _ _ h16_c
  have h17_c1 := K17 _ _ h16_c1
  have h17_c5 := K17 _ _ h16_c5
  have h17_c8 := K17 _ _ h16_c8
  have h17_c11 := K17 _ _ h16_c11
  have h17_c13 := K17 _ _ h16_c13
  have h17_c16 := K17 _ _ s16
  have r17_c1_10 := (R17 c1 10 (by omega) (by omega)).trans r16_c1_10
  have r17_c_0 := (R17 c 0 (by omega) (by omega)).trans r16_c_0
  have r17_c_4 := (R17 c 4 (by omega) (by omega)).trans r16_c_4
  obtain ⟨B18, e18, W18, m18, K18, R18, v18⟩ := st_wr (c := c11) (j := 1) (q := c16) W17 (lt_sh h17_c11) (lt_sh h17_c16)
  have l18 : B18.1.length = B.1.length + 356 := by omega
  have h18_c := K18 _ _ h17_c
  have h18_c1 := K18 _ _ h17_c1
  have h18_c5 := K18 _ _ h17_c5
  have h18_c8 := K18 _ _ h17_c8
  have h18_c11 := K18 _ _ h17_c11
  have h18_c13 := K18 _ _ h17_c13
  have h18_c16 := K18 _ _ h17_c16
  have r18_c1_10 := (R18 c1 10 (by omega)).trans r17_c1_10
  have r18_c_0 := (R18 c 0 (by omega)).trans r17_c_0
  have r18_c_4 := (R18 c 4 (by omega)).trans r17_c_4
  obtain ⟨c19, g19⟩ : ∃ x, x = B18.1.length := ⟨_, rfl⟩
  have q19 : c19 = B.1.length + 356 := by omega
  obtain ⟨B19, e19, W19, m19, K19, R19, s19⟩ := st_nw W18 (8, go_N 8)
  have l19 : B19.1.length = B.1.length + 357 := by omega
  have h19_c := K19 _ _ h18_c
  have h19_c1 := K19 _ _ h18_c1
  have h19_c5 := K19 _ _ h18_c5
  have h19_c8 := K19 _ _ h18_c8
  have h19_c11 := K19 _ _ h18_c11
  have h19_c13 := K19 _ _ h18_c13
  have h19_c16 := K19 _ _ h18_c16
  have r19_c1_10 := (R19 c1 10).trans r18_c1_10
  have r19_c_0 := (R19 c 0).trans r18_c_0
  have r19_c_4 := (R19 c 4).trans r18_c_4
  rw [← g19] at s19
  obtain ⟨B20, e20, W20, m20, K20, R20⟩ := stX8 W19 (by omega) s19
  have l20 : B20.1.length = B.1.length + 363 := by omega
  have h20_c := K20 _ _ h19_c
  have h20_c1 := K20 _ _ h19_c1
  have h20_c5 := K20 _ _ h19_c5
  have h20_c8 := K20 _ _ h19_c8
  have h20_c11 := K20 _ _ h19_c11
  have h20_c13 := K20 _ _ h19_c13
  have h20_c16 := K20 _ _ h19_c16
  have h20_c19 := K20 _ _ s19
  have r20_c1_10 := (R20 c1 10 (by omega) (by omega)).trans r19_c1_10
  have r20_c_0 := (R20 c 0 (by omega) (by omega)).trans r19_c_0
  have r20_c_4 := (R20 c 4 (by omega) (by omega)).trans r19_c_4
  obtain ⟨B21, e21, W21, m21, K21, R21, v21⟩ := st_wr (c := c11) (j := 2) (q := c19) W20 (lt_sh h20_c11) (lt_sh h20_c19)
  have l21 : B21.1.length = B.1.length + 363 := by omega
  have h21_c := K21 _ _ h20_c
  have h21_c1 := K21 _ _ h20_c1
  have h21_c5 := K21 _ _ h20_c5
  have h21_c8 := K21 _ _ h20_c8
  have h21_c11 := K21 _ _ h20_c11
  have h21_c13 := K21 _ _ h20_c13
  have h21_c16 := K21 _ _ h20_c16
  have h21_c19 := K21 _ _ h20_c19
  have r21_c1_10 := (R21 c1 10 (by omega)).trans r20_c1_10
  have r21_c_0 := (R21 c 0 (by omega)).trans r20_c_0
  have r21_c_4 := (R21 c 4 (by omega)).trans r20_c_4
  obtain ⟨c22, g22⟩ : ∃ x, x = B21.1.length := ⟨_, rfl⟩
  have q22 : c22 = B.1.length + 363 := by omega
  obtain ⟨B22, e22, W22, m22, K22, R22, s22⟩ := st_nw W21 (8, go_N 8)
  have l22 : B22.1.length = B.1.length + 364 := by omega
  have h22_c := K22 _ _ h21_c
  have h22_c1 := K22 _ _ h21_c1
  have h22_c5 := K22 _ _ h21_c5
  have h22_c8 := K22 _ _ h21_c8
  have h22_c11 := K22 _ _ h21_c11
  have h22_c13 := K22 _ _ h21_c13
  have h22_c16 := K22 _ _ h21_c16
  have h22_c19 := K22 _ _ h21_c19
  have r22_c1_10 := (R22 c1 10).trans r21_c1_10
  have r22_c_0 := (R22 c 0).trans r21_c_0
  have r22_c_4 := (R22 c 4).trans r21_c_4
  rw [← g22] at s22
  obtain ⟨B23, e23, W23, m23, K23, R23⟩ := stX8 W22 (by omega) s22
  have l23 : B23.1.length = B.1.length + 370 := by omega
  have h23_c := K23 _ _ h22_c
  have h23_c1 := K23 _ _ h22_c1
  have h23_c5 := K23 _ _ h22_c5
  have h23_c8 := K23 _ _ h22_c8
  have h23_c11 := K23 _ _ h22_c11
  have h23_c13 := K23 _ _ h22_c13
  have h23_c16 := K23 _ _ h22_c16
  have h23_c19 := K23 _ _ h22_c19
  have h23_c22 := K23 _ _ s22
  have r23_c1_10 := (R23 c1 10 (by omega) (by omega)).trans r22_c1_10
  have r23_c_0 := (R23 c 0 (by omega) (by omega)).trans r22_c_0
  have r23_c_4 := (R23 c 4 (by omega) (by omega)).trans r22_c_4
  obtain ⟨B24, e24, W24, m24, K24, R24, v24⟩ := st_wr (c := c11) (j := 3) (q := c22) W23 (lt_sh h23_c11) (lt_sh h23_c22)
  have l24 : B24.1.length = B.1.length + 370 := by omega
  have h24_c := K24 _ _ h23_c
  have h24_c1 := K24 _ _ h23_c1
  have h24_c5 := K24 _ _ h23_c5
  have h24_c8 := K24 _ _ h23_c8
  have h24_c11 := K24 _ _ h23_c11
  have h24_c13 := K24 _ _ h23_c13
  have h24_c16 := K24 _ _ h23_c16
  have h24_c19 := K24 _ _ h23_c19
  have h24_c22 := K24 _ _ h23_c22
  have r24_c1_10 := (R24 c1 10 (by omega)).trans r23_c1_10
  have r24_c_0 := (R24 c 0 (by omega)).trans r23_c_0
  have r24_c_4 := (R24 c 4 (by omega)).trans r23_c_4
  obtain ⟨B25, e25, W25, m25, K25, R25, v25, s25⟩ := st_arr (c := c) (j := 5) (n := 300) W24 (lt_sh h24_c)
  have l25 : B25.1.length = B.1.length + 371 := by omega
  have h25_c := K25 _ _ h24_c
  have h25_c1 := K25 _ _ h24_c1
  have h25_c5 := K25 _ _ h24_c5
  have h25_c8 := K25 _ _ h24_c8
  have h25_c11 := K25 _ _ h24_c11
  have h25_c13 := K25 _ _ h24_c13
  have h25_c16 := K25 _ _ h24_c16
  have h25_c19 := K25 _ _ h24_c19
  have h25_c22 := K25 _ _ h24_c22
  have r25_c1_10 := (R25 c1 10 (by omega)).trans r24_c1_10
  have r25_c_0 := (R25 c 0 (by omega)).trans r24_c_0
  have r25_c_4 := (R25 c 4 (by omega)).trans r24_c_4
  obtain ⟨c25, g25⟩ : ∃ x, x = B24.1.length := ⟨_, rfl⟩
  rw [← g25] at s25 v25
  have q25 : c25 = B.1.length + 370 := by omega
  obtain ⟨c26, g26⟩ : ∃ x, x = B25.1.length := ⟨_, rfl⟩
  have q26 : c26 = B.1.length + 371 := by omega
  obtain ⟨B26, e26, W26, m26, K26, R26, s26⟩ := st_nw W25 (6, go_N 6)
  have l26 : B26.1.length = B.1.length + 372 := by omega
  have h26_c := K26 _ _ h25_c
  have h26_c1 := K26 _ _ h25_c1
  have h26_c5 := K26 _ _ h25_c5
  have h26_c8 := K26 _ _ h25_c8
  have h26_c11 := K26 _ _ h25_c11
  have h26_c13 := K26 _ _ h25_c13
  have h26_c16 := K26 _ _ h25_c16
  have h26_c19 := K26 _ _ h25_c19
  have h26_c22 := K26 _ _ h25_c22
  have h26_c25 := K26 _ _ s25
  have r26_c1_10 := (R26 c1 10).trans r25_c1_10
  have r26_c_0 := (R26 c 0).trans r25_c_0
  have r26_c_4 := (R26 c 4).trans r25_c_4
  have r26_c_5 := (R26 c 5).trans v25
  rw [← g26] at s26
  obtain ⟨B27, e27, W27, m27, K27, R27⟩ := stX6 W26 (by omega) s26 (lt_sh h26_c25)
  have l27 : B27.1.length = B.1.length + 382 := by omega
  have h27_c := K27 _ _ h26_c
  have h27_c1 := K27 _ _ h26_c1
  have h27_c5 := K27 _ _ h26_c5
  have h27_c8 := K27 _ _ h26_c8
  have h27_c11 := K27 _ _ h26_c11
  have h27_c13 := K27 _ _ h26_c13
  have h27_c16 := K27 _ _ h26_c16
  have h27_c19 := K27 _ _ h26_c19
  have h27_c22 := K27 _ _ h26_c22
  have h27_c25 := K27 _ _ h26_c25
  have h27_c26 := K27 _ _ s26
  have r27_c1_10 := (R27 c1 10 (by omega) (by omega)).trans r26_c1_10
  have r27_c_0 := (R27 c 0 (by omega) (by omega)).trans r26_c_0
  have r27_c_4 := (R27 c 4 (by omega) (by omega)).trans r26_c_4
  have r27_c_5 := (R27 c 5 (by omega) (by omega)).trans r26_c_5
  obtain ⟨B28, e28, W28, m28, K28, R28, v28⟩ := st_wr (c := c) (j := 6) (q := c26) W27 (lt_sh h27_c) (lt_sh h27_c26)
  have l28 : B28.1.length = B.1.length + 382 := by omega
  have h28_c := K28 _ _ h27_c
  have h28_c1 := K28 _ _ h27_c1
  have h28_c5 := K28 _ _ h27_c5
  have h28_c8 := K28 _ _ h27_c8
  have h28_c11 := K28 _ _ h27_c11
  have h28_c13 := K28 _ _ h27_c13
  have h28_c16 := K28 _ _ h27_c16
  have h28_c19 := K28 _ _ h27_c19
  have h28_c22 := K28 _ _ h27_c22
  have h28_c25 := K28 _ _ h27_c25
  have h28_c26 := K28 _ _ h27_c26
  have r28_c1_10 := (R28 c1 10 (by omega)).trans r27_c1_10
  have r28_c_0 := (R28 c 0 (by omega)).trans r27_c_0
  have r28_c_4 := (R28 c 4 (by omega)).trans r27_c_4
  have r28_c_5 := (R28 c 5 (by omega)).trans r27_c_5
  obtain ⟨c29, g29⟩ : ∃ x, x = B28.1.length := ⟨_, rfl⟩
  have q29 : c29 = B.1.length + 382 := by omega
  obtain ⟨B29, e29, W29, m29, K29, R29, s29⟩ := st_nw W28 (2, go_N 2)
  have l29 : B29.1.length = B.1.length + 383 := by omega
  have h29_c := K29 _ _ h28_c
  have h29_c1 := K29 _ _ h28_c1
  have h29_c5 := K29 _ _ h28_c5
  have h29_c8 := K29 _ _ h28_c8
  have h29_c11 := K29 _ _ h28_c11
  have h29_c13 := K29 _ _ h28_c13
  have h29_c16 := K29 _ _ h28_c16
  have h29_c19 := K29 _ _ h28_c19
  have h29_c22 := K29 _ _ h28_c22
  have h29_c25 := K29 _ _ h28_c25
  have h29_c26 := K29 _ _ h28_c26
  have r29_c1_10 := (R29 c1 10).trans r28_c1_10
  have r29_c_0 := (R29 c 0).trans r28_c_0
  have r29_c_4 := (R29 c 4).trans r28_c_4
  have r29_c_5 := (R29 c 5).trans r28_c_5
  rw [← g29] at s29
  obtain ⟨B30, e30, W30, m30, K30, R30⟩ := stX2 W29 (by omega) s29 (lt_sh h29_c1)
  have l30 : B30.1.length = B.1.length + 385 := by omega
  have h30_c := K30 _ _ h29_c
  have h30_c1 := K30 _ _ h29_c1
  have h30_c5 := K30 _ _ h29_c5
  have h30_c8 := K30 _ _ h29_c8
  have h30_c11 := K30 _ _ h29_c11
  have h30_c13 := K30 _ _ h29_c13
  have h30_c16 := K30 _ _ h29_c16
  have h30_c19 := K30 _ _ h29_c19
  have h30_c22 := K30 _ _ h29_c22
  have h30_c25 := K30 _ _ h29_c25
  have h30_c26 := K30 _ _ h29_c26
  have h30_c29 := K30 _ _ s29
  have r30_c1_10 := (R30 c1 10 (by omega) (by omega)).trans r29_c1_10
  have r30_c_0 := (R30 c 0 (by omega) (by omega)).trans r29_c_0
  have r30_c_4 := (R30 c 4 (by omega) (by omega)).trans r29_c_4
  have r30_c_5 := (R30 c 5 (by omega) (by omega)).trans r29_c_5
  obtain ⟨B31, e31, W31, m31, K31, R31, v31⟩ := st_wr (c := c) (j := 7) (q := c29) W30 (lt_sh h30_c) (lt_sh h30_c29)
  have l31 : B31.1.length = B.1.length + 385 := by omega
  have h31_c := K31 _ _ h30_c
  have h31_c1 := K31 _ _ h30_c1
  have h31_c5 := K31 _ _ h30_c5
  have h31_c8 := K31 _ _ h30_c8
  have h31_c11 := K31 _ _ h30_c11
  have h31_c13 := K31 _ _ h30_c13
  have h31_c16 := K31 _ _ h30_c16
  have h31_c19 := K31 _ _ h30_c19
  have h31_c22 := K31 _ _ h30_c22
  have h31_c25 := K31 _ _ h30_c25
  have h31_c26 := K31 _ _ h30_c26
  have h31_c29 := K31 _ _ h30_c29
  have r31_c1_10 := (R31 c1 10 (by omega)).trans r30_c1_10
  have r31_c_0 := (R31 c 0 (by omega)).trans r30_c_0
  have r31_c_4 := (R31 c 4 (by omega)).trans r30_c_4
  have r31_c_5 := (R31 c 5 (by omega)).trans r30_c_5
  obtain ⟨c32, g32⟩ : ∃ x, x = B31.1.length := ⟨_, rfl⟩
  have q32 : c32 = B.1.length + 385 := by omega
  obtain ⟨B32, e32, W32, m32, K32, R32, s32⟩ := st_nw W31 (0, go_N 0)
  have l32 : B32.1.length = B.1.length + 386 := by omega
  have h32_c := K32 _ _ h31_c
  have h32_c1 := K32 _ _ h31_c1
  have h32_c5 := K32 _ _ h31_c5
  have h32_c8 := K32 _ _ h31_c8
  have h32_c11 := K32 _ _ h31_c11
  have h32_c13 := K32 _ _ h31_c13
  have h32_c16 := K32 _ _ h31_c16
  have h32_c19 := K32 _ _ h31_c19
  have h32_c22 := K32 _ _ h31_c22
  have h32_c25 := K32 _ _ h31_c25
  have h32_c26 := K32 _ _ h31_c26
  have h32_c29 := K32 _ _ h31_c29
  have r32_c1_10 := (R32 c1 10).trans r31_c1_10
  have r32_c_0 := (R32 c 0).trans r31_c_0
  have r32_c_4 := (R32 c 4).trans r31_c_4
  have r32_c_5 := (R32 c 5).trans r31_c_5
  have r32_c_7 := (R32 c 7).trans v31
  rw [← g32] at s32
  obtain ⟨B33, e33, W33, m33, K33, R33⟩ := stX0 W32 (by omega) s32 (lt_sh h32_c1) (lt_sh h32_c29)
  have l33 : B33.1.length = B.1.length + 386 := by omega
  have h33_c := K33 _ _ h32_c
  have h33_c1 := K33 _ _ h32_c1
  have h33_c5 := K33 _ _ h32_c5
  have h33_c8 := K33 _ _ h32_c8
  have h33_c11 := K33 _ _ h32_c11
  have h33_c13 := K33 _ _ h32_c13
  have h33_c16 := K33 _ _ h32_c16
  have h33_c19 := K33 _ _ h32_c19
  have h33_c22 := K33 _ _ h32_c22
  have h33_c25 := K33 _ _ h32_c25
  have h33_c26 := K33 _ _ h32_c26
  have h33_c29 := K33 _ _ h32_c29
  have h33_c32 := K33 _ _ s32
  have r33_c1_10 := (R33 c1 10 (by omega) (by omega)).trans r32_c1_10
  have r33_c_0 := (R33 c 0 (by omega) (by omega)).trans r32_c_0
  have r33_c_4 := (R33 c 4 (by omega) (by omega)).trans r32_c_4
  have r33_c_5 := (R33 c 5 (by omega) (by omega)).trans r32_c_5
  have r33_c_7 := (R33 c 7 (by omega) (by omega)).trans r32_c_7
  obtain ⟨B34, e34, W34, m34, K34, R34, v34⟩ := st_wr (c := c) (j := 8) (q := c32) W33 (lt_sh h33_c) (lt_sh h33_c32)
  have l34 : B34.1.length = B.1.length + 386 := by omega
  have h34_c := K34 _ _ h33_c
  have h34_c1 := K34 _ _ h33_c1
  have h34_c5 := K34 _ _ h33_c5
  have h34_c8 := K34 _ _ h33_c8
  have h34_c11 := K34 _ _ h33_c11
  have h34_c13 := K34 _ _ h33_c13
  have h34_c16 := K34 _ _ h33_c16
  have h34_c19 := K34 _ _ h33_c19
  have h34_c22 := K34 _ _ h33_c22
  have h34_c25 := K34 _ _ h33_c25
  have h34_c26 := K34 _ _ h33_c26
  have h34_c29 := K34 _ _ h33_c29
  have h34_c32 := K34 _ _ h33_c32
  have r34_c1_10 := (R34 c1 10 (by omega)).trans r33_c1_10
  have r34_c_0 := (R34 c 0 (by omega)).trans r33_c_0
  have r34_c_4 := (R34 c 4 (by omega)).trans r33_c_4
  have r34_c_5 := (R34 c 5 (by omega)).trans r33_c_5
  have r34_c_7 := (R34 c 7 (by omega)).trans r33_c_7
  obtain ⟨c35, g35⟩ : ∃ x, x = B34.1.length := ⟨_, rfl⟩
  have q35 : c35 = B.1.length + 386 := by omega
  obtain ⟨B35, e35, W35, m35, K35, R35, s35⟩ := st_nw W34 (4, go_N 4)
  have l35 : B35.1.length = B.1.length + 387 := by omega
  have h35_c := K35 _ _ h34_c
  have h35_c1 := K35 _ _ h34_c1
  have h35_c5 := K35 _ _ h34_c5
  have h35_c8 := K35 _ _ h34_c8
  have h35_c11 := K35 _ _ h34_c11
  have h35_c13 := K35 _ _ h34_c13
  have h35_c16 := K35 _ _ h34_c16
  have h35_c19 := K35 _ _ h34_c19
  have h35_c22 := K35 _ _ h34_c22
  have h35_c25 := K35 _ _ h34_c25
  have h35_c26 := K35 _ _ h34_c26
  have h35_c29 := K35 _ _ h34_c29
  have h35_c32 := K35 _ _ h34_c32
  have r35_c1_10 := (R35 c1 10).trans r34_c1_10
  have r35_c_0 := (R35 c 0).trans r34_c_0
  have r35_c_4 := (R35 c 4).trans r34_c_4
  have r35_c_5 := (R35 c 5).trans r34_c_5
  have r35_c_7 := (R35 c 7).trans r34_c_7
  rw [← g35] at s35
  obtain ⟨B36, e36, W36, m36, K36, R36⟩ := stX4 W35 (by omega) s35 (lt_sh h35_c1)
  have l36 : B36.1.length = B.1.length + 393 := by omega
  have h36_c := K36 _ _ h35_c
  have h36_c1 := K36 _ _ h35_c1
  have h36_c5 := K36 _ _ h35_c5
  have h36_c8 := K36 _ _ h35_c8
  have h36_c11 := K36 _ _ h35_c11
  have h36_c13 := K36 _ _ h35_c13
  have h36_c16 := K36 _ _ h35_c16
  have h36_c19 := K36 _ _ h35_c19
  have h36_c22 := K36 _ _ h35_c22
  have h36_c25 := K36 _ _ h35_c25
  have h36_c26 := K36 _ _ h35_c26
  have h36_c29 := K36 _ _ h35_c29
  have h36_c32 := K36 _ _ h35_c32
  have h36_c35 := K36 _ _ s35
  have r36_c1_10 := (R36 c1 10 (by omega) (by omega)).trans r35_c1_10
  have r36_c_0 := (R36 c 0 (by omega) (by omega)).trans r35_c_0
  have r36_c_4 := (R36 c 4 (by omega) (by omega)).trans r35_c_4
  have r36_c_5 := (R36 c 5 (by omega) (by omega)).trans r35_c_5
  have r36_c_7 := (R36 c 7 (by omega) (by omega)).trans r35_c_7
  obtain ⟨B37, e37, W37, m37, K37, R37, v37⟩ := st_wr (c := c) (j := 9) (q := c35) W36 (lt_sh h36_c) (lt_sh h36_c35)
  have l37 : B37.1.length = B.1.length + 393 := by omega
  have h37_c := K37 _ _ h36_c
  have h37_c1 := K37 _ _ h36_c1
  have h37_c5 := K37 _ _ h36_c5
  have h37_c8 := K37 _ _ h36_c8
  have h37_c11 := K37 _ _ h36_c11
  have h37_c13 := K37 _ _ h36_c13
  have h37_c16 := K37 _ _ h36_c16
  have h37_c19 := K37 _ _ h36_c19
  have h37_c22 := K37 _ _ h36_c22
  have h37_c25 := K37 _ _ h36_c25
  have h37_c26 := K37 _ _ h36_c26
  have h37_c29 := K37 _ _ h36_c29
  have h37_c32 := K37 _ _ h36_c32
  have h37_c35 := K37 _ _ h36_c35
  have r37_c1_10 := (R37 c1 10 (by omega)).trans r36_c1_10
  have r37_c_0 := (R37 c 0 (by omega)).trans r36_c_0
  have r37_c_4 := (R37 c 4 (by omega)).trans r36_c_4
  have r37_c_5 := (R37 c 5 (by omega)).trans r36_c_5
  have r37_c_7 := (R37 c 7 (by omega)).trans r36_c_7
  obtain ⟨c38, g38⟩ : ∃ x, x = B37.1.length := ⟨_, rfl⟩
  have q38 : c38 = B.1.length + 393 := by omega
  obtain ⟨B38, e38, W38, m38, K38, R38, s38⟩ := st_nw W37 (1, go_N 1)
  have l38 : B38.1.length = B.1.length + 394 := by omega
  have h38_c := K38 _ _ h37_c
  have h38_c1 := K38 _ _ h37_c1
  have h38_c5 := K38 _ _ h37_c5
  have h38_c8 := K38 _ _ h37_c8
  have h38_c11 := K38 _ _ h37_c11
  have h38_c13 := K38 _ _ h37_c13
  have h38_c16 := K38 _ _ h37_c16
  have h38_c19 := K38 _ _ h37_c19
  have h38_c22 := K38 _ _ h37_c22
  have h38_c25 := K38 _ _ h37_c25
  have h38_c26 := K38 _ _ h37_c26
  have h38_c29 := K38 _ _ h37_c29
  have h38_c32 := K38 _ _ h37_c32
  have h38_c35 := K38 _ _ h37_c35
  have r38_c1_10 := (R38 c1 10).trans r37_c1_10
  have r38_c_0 := (R38 c 0).trans r37_c_0
  have r38_c_4 := (R38 c 4).trans r37_c_4
  have r38_c_5 := (R38 c 5).trans r37_c_5
  have r38_c_7 := (R38 c 7).trans r37_c_7
  rw [← g38] at s38
  obtain ⟨B39, e39, W39, m39, K39, R39⟩ := stX1 W38 (by omega) s38 (lt_sh h38_c1)
  have l39 : B39.1.length = B.1.length + 397 := by omega
  have h39_c := K39 _ _ h38_c
  have h39_c1 := K39 _ _ h38_c1
  have h39_c5 := K39 _ _ h38_c5
  have h39_c8 := K39 _ _ h38_c8
  have h39_c11 := K39 _ _ h38_c11
  have h39_c13 := K39 _ _ h38_c13
  have h39_c16 := K39 _ _ h38_c16
  have h39_c19 := K39 _ _ h38_c19
  have h39_c22 := K39 _ _ h38_c22
  have h39_c25 := K39 _ _ h38_c25
  have h39_c26 := K39 _ _ h38_c26
  have h39_c29 := K39 _ _ h38_c29
  have h39_c32 := K39 _ _ h38_c32
  have h39_c35 := K39 _ _ h38_c35
  have h39_c38 := K39 _ _ s38
  have r39_c1_10 := (R39 c1 10 (by omega) (by omega)).trans r38_c1_10
  have r39_c_0 := (R39 c 0 (by omega) (by omega)).trans r38_c_0
  have r39_c_4 := (R39 c 4 (by omega) (by omega)).trans r38_c_4
  have r39_c_5 := (R39 c 5 (by omega) (by omega)).trans r38_c_5
  have r39_c_7 := (R39 c 7 (by omega) (by omega)).trans r38_c_7
  obtain ⟨B40, e40, W40, m40, K40, R40, v40⟩ := st_wr (c := c) (j := 10) (q := c38) W39 (lt_sh h39_c) (lt_sh h39_c38)
  have l40 : B40.1.length = B.1.length + 397 := by omega
  have h40_c := K40 _ _ h39_c
  have h40_c1 := K40 _ _ h39_c1
  have h40_c5 := K40 _ _ h39_c5
  have h40_c8 := K40 _ _ h39_c8
  have h40_c11 := K40 _ _ h39_c11
  have h40_c13 := K40 _ _ h39_c13
  have h40_c16 := K40 _ _ h39_c16
  have h40_c19 := K40 _ _ h39_c19
  have h40_c22 := K40 _ _ h39_c22
  have h40_c25 := K40 _ _ h39_c25
  have h40_c26 := K40 _ _ h39_c26
  have h40_c29 := K40 _ _ h39_c29
  have h40_c32 := K40 _ _ h39_c32
  have h40_c35 := K40 _ _ h39_c35
  have h40_c38 := K40 _ _ h39_c38
  have r40_c1_10 := (R40 c1 10 (by omega)).trans r39_c1_10
  have r40_c_0 := (R40 c 0 (by omega)).trans r39_c_0
  have r40_c_4 := (R40 c 4 (by omega)).trans r39_c_4
  have r40_c_5 := (R40 c 5 (by omega)).trans r39_c_5
  have r40_c_7 := (R40 c 7 (by omega)).trans r39_c_7
  obtain ⟨c41, g41⟩ : ∃ x, x = B40.1.length := ⟨_, rfl⟩
  have q41 : c41 = B.1.length + 397 := by omega
  obtain ⟨B41, e41, W41, m41, K41, R41, s41⟩ := st_nw W40 (3, go_N 3)
  have l41 : B41.1.length = B.1.length + 398 := by omega
  have h41_c := K41 _ _ h40_c
  have h41_c1 := K41 _ _ h40_c1
  have h41_c5 := K41 _ _ h40_c5
  have h41_c8 := K41 _ _ h40_c8
  have h41_c11 := K41 _ _ h40_c11
  have h41_c13 := K41 _ _ h40_c13
  have h41_c16 := K41 _ _ h40_c16
  have h41_c19 := K41 _ _ h40_c19
  have h41_c22 := K41 _ _ h40_c22
  have h41_c25 := K41 _ _ h40_c25
  have h41_c26 := K41 _ _ h40_c26
  have h41_c29 := K41 _ _ h40_c29
  have h41_c32 := K41 _ _ h40_c32
  have h41_c35 := K41 _ _ h40_c35
  have h41_c38 := K41 _ _ h40_c38
  have r41_c1_10 := (R41 c1 10).trans r40_c1_10
  have r41_c_0 := (R41 c 0).trans r40_c_0
  have r41_c_4 := (R41 c 4).trans r40_c_4
  have r41_c_5 := (R41 c 5).trans r40_c_5
  have r41_c_7 := (R41 c 7).trans r40_c_7
  rw [← g41] at s41
  obtain ⟨B42, e42, W42, m42, K42, R42⟩ := stX3 W41 (by omega) s41 (lt_sh h41_c1)
  have l42 : B42.1.length = B.1.length + 398 := by omega
  have h42_c := K42 _ _ h41_c
  have h42_c1 := K42 _ _ h41_c1
  have h42_c5 := K42 _ _ h41_c5
  have h42_c8 := K42 _ _ h41_c8
  have h42_c11 := K42 _ _ h41_c11
  have h42_c13 := K42 _ _ h41_c13
  have h42_c16 := K42 _ _ h41_c16
  have h42_c19 := K42 _ _ h41_c19
  have h42_c22 := K42 _ _ h41_c22
  have h42_c25 := K42 _ _ h41_c25
  have h42_c26 := K42 _ _ h41_c26
  have h42_c29 := K42 _ _ h41_c29
  have h42_c32 := K42 _ _ h41_c32
  have h42_c35 := K42 _ _ h41_c35
  have h42_c38 := K42 _ _ h41_c38
  have h42_c41 := K42 _ _ s41
  have r42_c1_10 := (R42 c1 10 (by omega) (by omega)).trans r41_c1_10
  have r42_c_0 := (R42 c 0 (by omega) (by omega)).trans r41_c_0
  have r42_c_4 := (R42 c 4 (by omega) (by omega)).trans r41_c_4
  have r42_c_5 := (R42 c 5 (by omega) (by omega)).trans r41_c_5
  have r42_c_7 := (R42 c 7 (by omega) (by omega)).trans r41_c_7
  obtain ⟨B43, e43, W43, m43, K43, R43, v43⟩ := st_wr (c := c) (j := 11) (q := c41) W42 (lt_sh h42_c) (lt_sh h42_c41)
  have l43 : B43.1.length = B.1.length + 398 := by omega
  have h43_c := K43 _ _ h42_c
  have h43_c1 := K43 _ _ h42_c1
  have h43_c5 := K43 _ _ h42_c5
  have h43_c8 := K43 _ _ h42_c8
  have h43_c11 := K43 _ _ h42_c11
  have h43_c13 := K43 _ _ h42_c13
  have h43_c16 := K43 _ _ h42_c16
  have h43_c19 := K43 _ _ h42_c19
  have h43_c22 := K43 _ _ h42_c22
  have h43_c25 := K43 _ _ h42_c25
  have h43_c26 := K43 _ _ h42_c26
  have h43_c29 := K43 _ _ h42_c29
  have h43_c32 := K43 _ _ h42_c32
  have h43_c35 := K43 _ _ h42_c35
  have h43_c38 := K43 _ _ h42_c38
  have h43_c41 := K43 _ _ h42_c41
  have r43_c1_10 := (R43 c1 10 (by omega)).trans r42_c1_10
  have r43_c_0 := (R43 c 0 (by omega)).trans r42_c_0
  have r43_c_4 := (R43 c 4 (by omega)).trans r42_c_4
  have r43_c_5 := (R43 c 5 (by omega)).trans r42_c_5
  have r43_c_7 := (R43 c 7 (by omega)).trans r42_c_7
  obtain ⟨c44, g44⟩ : ∃ x, x = B43.1.length := ⟨_, rfl⟩
  have q44 : c44 = B.1.length + 398 := by omega
  obtain ⟨B44, e44, W44, m44, K44, R44, s44⟩ := st_nw W43 (5, go_N 5)
  have l44 : B44.1.length = B.1.length + 399 := by omega
  have h44_c := K44 _ _ h43_c
  have h44_c1 := K44 _ _ h43_c1
  have h44_c5 := K44 _ _ h43_c5
  have h44_c8 := K44 _ _ h43_c8
  have h44_c11 := K44 _ _ h43_c11
  have h44_c13 := K44 _ _ h43_c13
  have h44_c16 := K44 _ _ h43_c16
  have h44_c19 := K44 _ _ h43_c19
  have h44_c22 := K44 _ _ h43_c22
  have h44_c25 := K44 _ _ h43_c25
  have h44_c26 := K44 _ _ h43_c26
  have h44_c29 := K44 _ _ h43_c29
  have h44_c32 := K44 _ _ h43_c32
  have h44_c35 := K44 _ _ h43_c35
  have h44_c38 := K44 _ _ h43_c38
  have h44_c41 := K44 _ _ h43_c41
  have r44_c1_10 := (R44 c1 10).trans r43_c1_10
  have r44_c_0 := (R44 c 0).trans r43_c_0
  have r44_c_4 := (R44 c 4).trans r43_c_4
  have r44_c_5 := (R44 c 5).trans r43_c_5
  have r44_c_7 := (R44 c 7).trans r43_c_7
  rw [← g44] at s44
  obtain ⟨B45, e45, W45, m45, K45, R45⟩ := stX5 W44 (by omega) s44 (lt_sh h44_c29)
  have l45 : B45.1.length = B.1.length + 400 := by omega
  have h45_c := K45 _ _ h44_c
  have h45_c1 := K45 _ _ h44_c1
  have h45_c5 := K45 _ _ h44_c5
  have h45_c8 := K45 _ _ h44_c8
  have h45_c11 := K45 _ _ h44_c11
  have h45_c13 := K45 _ _ h44_c13
  have h45_c16 := K45 _ _ h44_c16
  have h45_c19 := K45 _ _ h44_c19
  have h45_c22 := K45 _ _ h44_c22
  have h45_c25 := K45 _ _ h44_c25
  have h45_c26 := K45 _ _ h44_c26
  have h45_c29 := K45 _ _ h44_c29
  have h45_c32 := K45 _ _ h44_c32
  have h45_c35 := K45 _ _ h44_c35
  have h45_c38 := K45 _ _ h44_c38
  have h45_c41 := K45 _ _ h44_c41
  have h45_c44 := K45 _ _ s44
  have r45_c1_10 := (R45 c1 10 (by omega) (by omega)).trans r44_c1_10
  have r45_c_0 := (R45 c 0 (by omega) (by omega)).trans r44_c_0
  have r45_c_4 := (R45 c 4 (by omega) (by omega)).trans r44_c_4
  have r45_c_5 := (R45 c 5 (by omega) (by omega)).trans r44_c_5
  have r45_c_7 := (R45 c 7 (by omega) (by omega)).trans r44_c_7
  obtain ⟨B46, e46, W46, m46, K46, R46, v46⟩ := st_wr (c := c) (j := 12) (q := c44) W45 (lt_sh h45_c) (lt_sh h45_c44)
  have l46 : B46.1.length = B.1.length + 400 := by omega
  have h46_c := K46 _ _ h45_c
  have h46_c1 := K46 _ _ h45_c1
  have h46_c5 := K46 _ _ h45_c5
  have h46_c8 := K46 _ _ h45_c8
  have h46_c11 := K46 _ _ h45_c11
  have h46_c13 := K46 _ _ h45_c13
  have h46_c16 := K46 _ _ h45_c16
  have h46_c19 := K46 _ _ h45_c19
  have h46_c22 := K46 _ _ h45_c22
  have h46_c25 := K46 _ _ h45_c25
  have h46_c26 := K46 _ _ h45_c26
  have h46_c29 := K46 _ _ h45_c29
  have h46_c32 := K46 _ _ h45_c32
  have h46_c35 := K46 _ _ h45_c35
  have h46_c38 := K46 _ _ h45_c38
  have h46_c41 := K46 _ _ h45_c41
  have h46_c44 := K46 _ _ h45_c44
  have r46_c1_10 := (R46 c1 10 (by omega)).trans r45_c1_10
  have r46_c_0 := (R46 c 0 (by omega)).trans r45_c_0
  have r46_c_4 := (R46 c 4 (by omega)).trans r45_c_4
  have r46_c_5 := (R46 c 5 (by omega)).trans r45_c_5
  have r46_c_7 := (R46 c 7 (by omega)).trans r45_c_7
  obtain ⟨B47, e47, W47, m47, K47, R47⟩ := st_wi (c := c) (j := 16) (v := (-1)) W46
  have l47 : B47.1.length = B.1.length + 400 := by omega
  have h47_c := K47 _ _ h46_c
  have h47_c1 := K47 _ _ h46_c1
  have h47_c5 := K47 _ _ h46_c5
  have h47_c8 := K47 _ _ h46_c8
  have h47_c11 := K47 _ _ h46_c11
  have h47_c13 := K47 _ _ h46_c13
  have h47_c16 := K47 _ _ h46_c16
  have h47_c19 := K47 _ _ h46_c19
  have h47_c22 := K47 _ _ h46_c22
  have h47_c25 := K47 _ _ h46_c25
  have h47_c26 := K47 _ _ h46_c26
  have h47_c29 := K47 _ _ h46_c29
  have h47_c32 := K47 _ _ h46_c32
  have h47_c35 := K47 _ _ h46_c35
  have h47_c38 := K47 _ _ h46_c38
  have h47_c41 := K47 _ _ h46_c41
  have h47_c44 := K47 _ _ h46_c44
  have r47_c1_10 := (R47 c1 10).trans r46_c1_10
  have r47_c_0 := (R47 c 0).trans r46_c_0
  have r47_c_4 := (R47 c 4).trans r46_c_4
  have r47_c_5 := (R47 c 5).trans r46_c_5
  have r47_c_7 := (R47 c 7).trans r46_c_7
  have eX : B47 = bX11 B c := by rw [e47, e46, e45, e44, g44, e43, e42, e41, g41, e40, e39, e38, g38, e37, e36, e35, g35, e34, e33, e32, g32, e31, e30, e29, g29, e28, e27, e26, g26, e25, g25, e24, e23, e22, g22, e21, e20, e19, g19, e18, e17, e16, g16, e15, e14, e13, g13, e12, e11, g11, e10, e9, e8, g8, e7, e6, e5, g5, e4, e3, e2, gw, e1, g1]; rfl
  refine ⟨B47, eX, W47, l47, fun c' k' h' => (K47 _ _ (K46 _ _ (K45 _ _ (K44 _ _ (K43 _ _ (K42 _ _ (K41 _ _ (K40 _ _ (K39 _ _ (K38 _ _ (K37 _ _ (K36 _ _ (K35 _ _ (K34 _ _ (K33 _ _ (K32 _ _ (K31 _ _ (K30 _ _ (K29 _ _ (K28 _ _ (K27 _ _ (K26 _ _ (K25 _ _ (K24 _ _ (K23 _ _ (K22 _ _ (K21 _ _ (K20 _ _ (K19 _ _ (K18 _ _ (K17 _ _ (K16 _ _ (K15 _ _ (K14 _ _ (K13 _ _ (K12 _ _ (K11 _ _ (K10 _ _ (K9 _ _ (K8 _ _ (K7 _ _ (K6 _ _ (K5 _ _ (K4 _ _ (K3 _ _ (K2 _ _ (K1 _ _ h'))))))))))))))))))))))))))))))))))))))))))))))), fun c' j' p1 p2 => ((R47 _ _).trans ((R46 _ _ (by omega)).trans ((R45 _ _ (by omega) (by omega)).trans ((R44 _ _).trans ((R43 _ _ (by omega)).trans ((R42 _ _ (by omega) (by omega)).trans ((R41 _ _).trans ((R40 _ _ (by omega)).trans ((R39 _ _ (by omega) (by omega)).trans ((R38 _ _).trans ((R37 _ _ (by omega)).trans ((R36 _ _ (by omega) (by omega)).trans ((R35 _ _).trans ((R34 _ _ (by omega)).trans ((R33 _ _ (by omega) (by omega)).trans ((R32 _ _).trans ((R31 _ _ (by omega)).trans ((R30 _ _ (by omega) (by omega)).trans ((R29 _ _).trans ((R28 _ _ (by omega)).trans ((R27 _ _ (by omega) (by omega)).trans ((R26 _ _).trans ((R25 _ _ (by omega)).trans ((R24 _ _ (by omega)).trans ((R23 _ _ (by omega) (by omega)).trans ((R22 _ _).trans ((R21 _ _ (by omega)).trans ((R20 _ _ (by omega) (by omega)).trans ((R19 _ _).trans ((R18 _ _ (by omega)).trans ((R17 _ _ (by omega) (by omega)).trans ((R16 _ _).trans ((R15 _ _ (by omega)).trans ((R14 _ _ (by omega) (by omega)).trans ((R13 _ _).trans ((R12 _ _ (by omega)).trans ((R11 _ _).trans ((R10 _ _ (by omega)).trans ((R9 _ _ (by omega) (by omega)).trans ((R8 _ _).trans ((R7 _ _ (by omega)).trans ((R6 _ _ (by omega) (by omega)).trans ((R5 _ _).trans ((R4 _ _ (by omega)).trans ((R3 _ _ (by omega)).trans ((R2 _ _ (by omega) (by omega)).trans (R1 _ _)))))))))))))))))))))))))))))))))))))))))))))))⟩
theorem ci_X11 {w : go_Wd} {B : BB} {c : Nat} (hW : BW B) (hl : B.1.length < 500000) (h0 : B.1[c]? = some (11, 17)) : Ct w 4 400 9302 mtX11_init [.ref c] (bm B) (fun r' M' => r' = none ∧ M' = bm (bX11 B c)) := by
  have hcl := lt_sh h0
  refine go_entry rfl (by decide) (Nat.le_of_ble_eq_true rfl) ?_
  show Go w 4 400 9302 mtX11_init 0 [(0, .ref c)] [] (bm B) (go_Z w _)
  refine go_aload_n dX11_init_0 0 rfl ?_
  refine go_objInit dX11_init_1 oo_X11_1 (Nat.le_of_ble_eq_true rfl) (Nat.le_of_ble_eq_true rfl) ?_
  refine go_aload_n dX11_init_4 0 rfl ?_
  refine bb_new2 (μ := mtX11_init) (bc := 399) (bs := 9284) (by decide +kernel) (by decide +kernel) dX11_init_5 cn_X11_7 (go_Z_up w _) hW (by omega) (stk_r (lt_sh h0) (stk_nil _)) (lvk_r (lt_sh h0) (lvk_nil _)) ?_
  obtain ⟨c1, g1⟩ : ∃ x, x = B.1.length := ⟨_, rfl⟩
  rw [← g1]
  obtain ⟨B1, e1, W1, m1, K1, R1, s1⟩ := st_nw hW (9, go_N 9)
  rw [← e1]
  have l1 : B1.1.length = B.1.length + 1 := by omega
  have h1_c := K1 _ _ h0
  rw [← g1] at s1
  show Go w 4 399 9284 mtX11_init 8 [(0, .ref c)] [.ref c1, .ref c] (bm B1) (go_Z w _)
  refine go_dup dX11_init_8 rfl ?_
  refine bb_callI2 (μ := mtX11_init) (bc := 232) (bs := 7342) (bc2 := 167) (bs2 := 1942) (b := c1) (as := []) (st := [.ref c1, .ref c]) (B' := bX9 B1 c1) (by decide +kernel) (by decide +kernel) dX11_init_9 ll_X11_9 (ci_X9 W1 (by omega) s1) rfl (Nat.le_of_ble_eq_true rfl) (Nat.le_of_ble_eq_true rfl) (go_Z_up w _) rfl (stk_r (lt_sh s1) (stk_r (lt_sh h1_c) (stk_nil _))) (lvk_r (lt_sh h1_c) (lvk_nil _)) ?_
  obtain ⟨B2, e2, W2, m2, K2, R2, v2⟩ := stX9 W1 (by omega) s1
  rw [← e2]
  have l2 : B2.1.length = B.1.length + 168 := by omega
  have h2_c := K2 _ _ h1_c
  have h2_c1 := K2 _ _ s1
  obtain ⟨cw, gw⟩ : ∃ x, x = B1.1.length + 10 := ⟨_, rfl⟩
  rw [← gw] at v2
  have qw : cw = B.1.length + 11 := by omega
  show Go w 4 232 7342 mtX11_init 12 [(0, .ref c)] [.ref c1, .ref c] (bm B2) (go_Z w _)
  refine bb_putR dX11_init_12 ff_X11_10 rfl rfl (Or.inl ⟨_, rfl⟩) W2 h2_c ?_
  obtain ⟨B3, e3, W3, m3, K3, R3, v3⟩ := st_wr (c := c) (j := 0) (q := c1) W2 (lt_sh h2_c) (lt_sh h2_c1)
  rw [← e3]
  have l3 : B3.1.length = B.1.length + 168 := by omega
  have h3_c := K3 _ _ h2_c
  have h3_c1 := K3 _ _ h2_c1
  have r3_c1_10 := (R3 c1 10 (by omega)).trans v2
  show Go w 4 232 7342 mtX11_init 15 [(0, .ref c)] [] (bm B3) (go_Z w _)
  refine go_aload_n dX11_init_15 0 rfl ?_
  refine go_aload_n dX11_init_16 0 rfl ?_
  refine go_getR dX11_init_17 ff_X11_10 (Or.inl ⟨_, rfl⟩) (show B3.1[c]? = some (11, 17) from h3_c) (show brf B3 c 0 = some c1 from v3) ?_
  refine go_getR dX11_init_20 ff_X11_16 (Or.inl ⟨_, rfl⟩) (show B3.1[c1]? = some (9, 18) from h3_c1) (show brf B3 c1 10 = some cw from r3_c1_10) ?_
  refine bb_putR dX11_init_23 ff_X11_20 rfl rfl (Or.inl ⟨_, rfl⟩) W3 h3_c ?_
  obtain ⟨B4, e4, W4, m4, K4, R4, v4⟩ := st_wr (c := c) (j := 1) (q := cw) W3 (lt_sh h3_c) (by omega)
  rw [← e4]
  have l4 : B4.1.length = B.1.length + 168 := by omega
  have h4_c := K4 _ _ h3_c
  have h4_c1 := K4 _ _ h3_c1
  have r4_c1_10 := (R4 c1 10 (by omega)).trans r3_c1_10
  have r4_c_0 := (R4 c 0 (by omega)).trans v3
  show Go w 4 232 7342 mtX11_init 26 [(0, .ref c)] [] (bm B4) (go_Z w _)
  refine go_aload_n dX11_init_26 0 rfl ?_
  refine bb_new2 (μ := mtX11_init) (bc := 231) (bs := 7324) (by decide +kernel) (by decide +kernel) dX11_init_27 cn_X11_7 (go_Z_up w _) W4 (by omega) (stk_r (lt_sh h4_c) (stk_nil _)) (lvk_r (lt_sh h4_c) (lvk_nil _)) ?_
  obtain ⟨c5, g5⟩ : ∃ x, x = B4.1.length := ⟨_, rfl⟩
  rw [← g5]
  have q5 : c5 = B.1.length + 168 := by omega
  obtain ⟨B5, e5, W5, m5, K5, R5, s5⟩ := st_nw W4 (9, go_N 9)
  rw [← e5]
  have l5 : B5.1.length = B.1.length + 169 := by omega
  have h5_c := K5 _ _ h4_c
  have h5_c1 := K5 _ _ h4_c1
  have r5_c1_10 := (R5 c1 10).trans r4_c1_10
  have r5_c_0 := (R5 c 0).trans r4_c_0
  rw [← g5] at s5
  show Go w 4 231 7324 mtX11_init 30 [(0, .ref c)] [.ref c5, .ref c] (bm B5) (go_Z w _)
  refine go_dup dX11_init_30 rfl ?_
  refine bb_callI2 (μ := mtX11_init) (bc := 64) (bs := 5382) (bc2 := 167) (bs2 := 1942) (b := c5) (as := []) (st := [.ref c5, .ref c]) (B' := bX9 B5 c5) (by decide +kernel) (by decide +kernel) dX11_init_31 ll_X11_9 (ci_X9 W5 (by omega) s5) rfl (Nat.le_of_ble_eq_true rfl) (Nat.le_of_ble_eq_true rfl) (go_Z_up w _) rfl (stk_r (lt_sh s5) (stk_r (lt_sh h5_c) (stk_nil _))) (lvk_r (lt_sh h5_c) (lvk_nil _)) ?_
  obtain ⟨B6, e6, W6, m6, K6, R6, v6⟩ := stX9 W5 (by omega) s5
  rw [← e6]
  have l6 : B6.1.length = B.1.length + 336 := by omega
  have h6_c := K6 _ _ h5_c
  have h6_c1 := K6 _ _ h5_c1
  have h6_c5 := K6 _ _ s5
  have r6_c1_10 := (R6 c1 10 (by omega) (by omega)).trans r5_c1_10
  have r6_c_0 := (R6 c 0 (by omega) (by omega)).trans r5_c_0
  show Go w 4 64 5382 mtX11_init 34 [(0, .ref c)] [.ref c5, .ref c] (bm B6) (go_Z w _)
  refine bb_putR dX11_init_34 ff_X11_21 rfl rfl (Or.inl ⟨_, rfl⟩) W6 h6_c ?_
  obtain ⟨B7, e7, W7, m7, K7, R7, v7⟩ := st_wr (c := c) (j := 2) (q := c5) W6 (lt_sh h6_c) (lt_sh h6_c5)
  rw [← e7]
  have l7 : B7.1.length = B.1.length + 336 := by omega
  have h7_c := K7 _ _ h6_c
  have h7_c1 := K7 _ _ h6_c1
  have h7_c5 := K7 _ _ h6_c5
  have r7_c1_10 := (R7 c1 10 (by omega)).trans r6_c1_10
  have r7_c_0 := (R7 c 0 (by omega)).trans r6_c_0
  show Go w 4 64 5382 mtX11_init 37 [(0, .ref c)] [] (bm B7) (go_Z w _)
  refine go_aload_n dX11_init_37 0 rfl ?_
  refine bb_new2 (μ := mtX11_init) (bc := 63) (bs := 5371) (by decide +kernel) (by decide +kernel) dX11_init_38 cn_X11_24 (go_Z_up w _) W7 (by omega) (stk_r (lt_sh h7_c) (stk_nil _)) (lvk_r (lt_sh h7_c) (lvk_nil _)) ?_
  obtain ⟨c8, g8⟩ : ∃ x, x = B7.1.length := ⟨_, rfl⟩
  rw [← g8]
  have q8 : c8 = B.1.length + 336 := by omega
  obtain ⟨B8, e8, W8, m8, K8, R8, s8⟩ := st_nw W7 (10, go_N 10)
  rw [← e8]
  have l8 : B8.1.length = B.1.length + 337 := by omega
  have h8_c := K8 _ _ h7_c
  have h8_c1 := K8 _ _ h7_c1
  have h8_c5 := K8 _ _ h7_c5
  have r8_c1_10 := (R8 c1 10).trans r7_c1_10
  have r8_c_0 := (R8 c 0).trans r7_c_0
  rw [← g8] at s8
  show Go w 4 63 5371 mtX11_init 41 [(0, .ref c)] [.ref c8, .ref c] (bm B8) (go_Z w _)
  refine go_dup dX11_init_41 rfl ?_
  refine bb_callIN2 (μ := mtX11_init) (bc := 59) (bs := 5324) (bc2 := 4) (bs2 := 47) (b := c8) (as := []) (st := [.ref c8, .ref c]) (B' := bX10 B8 c8) (by decide +kernel) (by decide +kernel) dX11_init_42 ll_X11_26 (ci_X10 W8 (by omega) s8) rfl (Nat.le_of_ble_eq_true rfl) (Nat.le_of_ble_eq_true rfl) (go_Z_up w _) rfl (stk_r (lt_sh s8) (stk_r (lt_sh h8_c) (stk_nil _))) (lvk_r (lt_sh h8_c) (lvk_nil _)) ?_
  obtain ⟨B9, e9, W9, m9, K9, R9⟩ := stX10 W8 (by omega) s8
  rw [← e9]
  have l9 : B9.1.length = B.1.length + 341 := by omega
  have h9_c := K9 _ _ h8_c
  have h9_c1 := K9 _ _ h8_c1
  have h9_c5 := K9 _ _ h8_c5
  have h9_c8 := K9 _ _ s8
  have r9_c1_10 := (R9 c1 10 (by omega) (by omega)).trans r8_c1_10
  have r9_c_0 := (R9 c 0 (by omega) (by omega)).trans r8_c_0
  show Go w 4 59 5324 mtX11_init 45 [(0, .ref c)] [.ref c8, .ref c] (bm B9) (go_Z w _)
  refine bb_putR dX11_init_45 ff_X11_27 rfl rfl (Or.inl ⟨_, rfl⟩) W9 h9_c ?_
  obtain ⟨B10, e10, W10, m10, K10, R10, v10⟩ := st_wr (c := c) (j := 3) (q := c8) W9 (lt_sh h9_c) (lt_sh h9_c8)
  rw [← e10]
  have l10 : B10.1.length = B.1.length + 341 := by omega
  have h10_c := K10 _ _ h9_c
  have h10_c1 := K10 _ _ h9_c1
  have h10_c5 := K10 _ _ h9_c5
  have h10_c8 := K10 _ _ h9_c8
  have r10_c1_10 := (R10 c1 10 (by omega)).trans r9_c1_10
  have r10_c_0 := (R10 c 0 (by omega)).trans r9_c_0
  show Go w 4 59 5324 mtX11_init 48 [(0, .ref c)] [] (bm B10) (go_Z w _)
  refine go_aload_n dX11_init_48 0 rfl ?_
  refine go_iconst (v := 4) dX11_init_49 (by decide) ?_
  refine bb_newT (bc := 58) (bs := 5320) (N := 4) dX11_init_50 cl_X11_30 (by decide) (by decide) (by omega) (go_Z_up w _) W10 (by omega) (stk_r (lt_sh h10_c) (stk_nil _)) (lvk_r (lt_sh h10_c) (lvk_nil _)) ?_
  obtain ⟨c11, g11⟩ : ∃ x, x = B10.1.length := ⟨_, rfl⟩
  rw [← g11]
  have q11 : c11 = B.1.length + 341 := by omega
  obtain ⟨B11, e11, W11, m11, K11, R11, s11⟩ := st_nw W10 (103, 4)
  rw [← e11]
  have l11 : B11.1.length = B.1.length + 342 := by omega
  have h11_c := K11 _ _ h10_c
  have h11_c1 := K11 _ _ h10_c1
  have h11_c5 := K11 _ _ h10_c5
  have h11_c8 := K11 _ _ h10_c8
  have r11_c1_10 := (R11 c1 10).trans r10_c1_10
  have r11_c_0 := (R11 c 0).trans r10_c_0
  rw [← g11] at s11
  show Go w 4 58 5320 mtX11_init 53 [(0, .ref c)] [.ref c11, .ref c] (bm B11) (go_Z w _)
  refine bb_putR dX11_init_53 ff_X11_32 rfl rfl (Or.inr ⟨_, rfl⟩) W11 h11_c ?_
  obtain ⟨B12, e12, W12, m12, K12, R12, v12⟩ := st_wr (c := c) (j := 4) (q := c11) W11 (lt_sh h11_c) (lt_sh s11)
  rw [← e12]
  have l12 : B12.1.length = B.1.length + 342 := by omega
  have h12_c := K12 _ _ h11_c
  have h12_c1 := K12 _ _ h11_c1
  have h12_c5 := K12 _ _ h11_c5
  have h12_c8 := K12 _ _ h11_c8
  have h12_c11 := K12 _ _ s11
  have r12_c1_10 := (R12 c1 10 (by omega)).trans r11_c1_10
  have r12_c_0 := (R12 c 0 (by omega)).trans r11_c_0
  show Go w 4 58 5320 mtX11_init 56 [(0, .ref c)] [] (bm B12) (go_Z w _)
  refine go_iconst (v := 0) dX11_init_56 (by decide) ?_
  refine go_istore_n dX11_init_57 (by decide) rfl ?_
  show Go w 4 58 5320 mtX11_init 58 [(1, .int 0), (0, .ref c)] [] (bm B12) (go_Z w _)
  refine go_iload_n dX11_init_58 0 rfl ?_
  refine go_iconst (v := 4) dX11_init_59 (by decide) ?_
  refine go_icmp_ge 82 dX11_init_60 (by decide) (fun hc => absurd hc (by decide)) (fun _ => ?_)
  refine go_aload_n dX11_init_63 1 rfl ?_
  refine go_getR dX11_init_64 ff_X11_32 (Or.inr ⟨_, rfl⟩) (show B12.1[c]? = some (11, 17) from h12_c) (show brf B12 c 4 = some c11 from v12) ?_
  refine go_iload_n dX11_init_67 0 rfl ?_
  refine bb_new2 (μ := mtX11_init) (bc := 57) (bs := 5312) (by decide +kernel) (by decide +kernel) dX11_init_68 cn_X11_30 (go_Z_up w _) W12 (by omega) (stk_i (stk_r (lt_sh h12_c11) (stk_nil _))) (lvk_i (lvk_r (lt_sh h12_c) (lvk_nil _))) ?_
  obtain ⟨c13, g13⟩ : ∃ x, x = B12.1.length := ⟨_, rfl⟩
  rw [← g13]
  have q13 : c13 = B.1.length + 342 := by omega
  obtain ⟨B13, e13, W13, m13, K13, R13, s13⟩ := st_nw W12 (8, go_N 8)
  rw [← e13]
  have l13 : B13.1.length = B.1.length + 343 := by omega
  have h13_c := K13 _ _ h12_c
  have h13_c1 := K13 _ _ h12_c1
  have h13_c5 := K13 _ _ h12_c5
  have h13_c8 := K13 _ _ h12_c8
  have h13_c11 := K13 _ _ h12_c11
  have r13_c1_10 := (R13 c1 10).trans r12_c1_10
  have r13_c_0 := (R13 c 0).trans r12_c_0
  have r13_c_4 := (R13 c 4).trans v12
  rw [← g13] at s13
  show Go w 4 57 5312 mtX11_init 71 [(1, .int 0), (0, .ref c)] [.ref c13, .int 0, .ref c11] (bm B13) (go_Z w _)
  refine go_dup dX11_init_71 rfl ?_
  refine bb_callIN2 (μ := mtX11_init) (bc := 51) (bs := 4597) (bc2 := 6) (bs2 := 715) (b := c13) (as := []) (st := [.ref c13, .int 0, .ref c11]) (B' := bX8 B13 c13) (by decide +kernel) (by decide +kernel) dX11_init_72 ll_X11_36 (ci_X8 W13 (by omega) s13) rfl (Nat.le_of_ble_eq_true rfl) (Nat.le_of_ble_eq_true rfl) (go_Z_up w _) rfl (stk_r (lt_sh s13) (stk_i (stk_r (lt_sh h13_c11) (stk_nil _)))) (lvk_i (lvk_r (lt_sh h13_c) (lvk_nil _))) ?_
  obtain ⟨B14, e14, W14, m14, K14, R14⟩ := stX8 W13 (by omega) s13
  rw [← e14]
  have l14 : B14.1.length = B.1.length + 349 := by omega
  have h14_c := K14 _ _ h13_c
  have h14_c1 := K14 _ _ h13_c1
  have h14_c5 := K14 _ _ h13_c5
  have h14_c8 := K14 _ _ h13_c8
  have h14_c11 := K14 _ _ h13_c11
  have h14_c13 := K14 _ _ s13
  have r14_c1_10 := (R14 c1 10 (by omega) (by omega)).trans r13_c1_10
  have r14_c_0 := (R14 c 0 (by omega) (by omega)).trans r13_c_0
  have r14_c_4 := (R14 c 4 (by omega) (by omega)).trans r13_c_4
  show Go w 4 51 4597 mtX11_init 75 [(1, .int 0), (0, .ref c)] [.ref c13, .int 0, .ref c11] (bm B14) (go_Z w _)
  refine bb_astT (j := 0) dX11_init_75 (by decide) W14 h14_c11 h14_c13 (by unfold vp_in; decide) ?_
  obtain ⟨B15, e15, W15, m15, K15, R15, v15⟩ := st_wr (c := c11) (j := 0) (q := c13) W14 (lt_sh h14_c11) (lt_sh h14_c13)
  rw [← e15]
  have l15 : B15.1.length = B.1.length + 349 := by omega
  have h15_c := K15 _ _ h14_c
  have h15_c1 := K15 _ _ h14_c1
  have h15_c5 := K15 _ _ h14_c5
  have h15_c8 := K15 _ _ h14_c8
  have h15_c11 := K15 _ _ h14_c11
  have h15_c13 := K15 _ _ h14_c13
  have r15_c1_10 := (R15 c1 10 (by omega)).trans r14_c1_10
  have r15_c_0 := (R15 c 0 (by omega)).trans r14_c_0
  have r15_c_4 := (R15 c 4 (by omega)).trans r14_c_4
  show Go w 4 51 4597 mtX11_init 76 [(1, .int 0), (0, .ref c)] [] (bm B15) (go_Z w _)
  refine go_iinc (v := 1) dX11_init_76 0 rfl (by decide) (by decide) rfl ?_
  show Go w 4 51 4597 mtX11_init 79 [(1, .int 1), (0, .ref c)] [] (bm B15) (go_Z w _)
  refine go_goto 58 dX11_init_79 (by decide) ?_
  refine go_iload_n dX11_init_58 0 rfl ?_
  refine go_iconst (v := 4) dX11_init_59 (by decide) ?_
  refine go_icmp_ge 82 dX11_init_60 (by decide) (fun hc => absurd hc (by decide)) (fun _ => ?_)
  refine go_aload_n dX11_init_63 1 rfl ?_
  refine go_getR dX11_init_64 ff_X11_32 (Or.inr ⟨_, rfl⟩) (show B15.1[c]? = some (11, 17) from h15_c) (show brf B15 c 4 = some c11 from r15_c_4) ?_
  refine go_iload_n dX11_init_67 0 rfl ?_
  refine bb_new2 (μ := mtX11_init) (bc := 50) (bs := 4589) (by decide +kernel) (by decide +kernel) dX11_init_68 cn_X11_30 (go_Z_up w _) W15 (by omega) (stk_i (stk_r (lt_sh h15_c11) (stk_nil _))) (lvk_i (lvk_r (lt_sh h15_c) (lvk_nil _))) ?_
  obtain ⟨c16, g16⟩ : ∃ x, x = B15.1.length := ⟨_, rfl⟩
  rw [← g16]
  have q16 : c16 = B.1.length + 349 := by omega
  obtain ⟨B16, e16, W16, m16, K16, R16, s16⟩ := st_nw W15 (8, go_N 8)
  rw [← e16]
  have l16 : B16.1.length = B.1.length + 350 := by omega
  have h16_c := K16 _ _ h15_c
  have h16_c1 := K16 _ _ h15_c1
  have h16_c5 := K16 _ _ h15_c5
  have h16_c8 := K16 _ _ h15_c8
  have h16_c11 := K16 _ _ h15_c11
  have h16_c13 := K16 _ _ h15_c13
  have r16_c1_10 := (R16 c1 10).trans r15_c1_10
  have r16_c_0 := (R16 c 0).trans r15_c_0
  have r16_c_4 := (R16 c 4).trans r15_c_4
  rw [← g16] at s16
  show Go w 4 50 4589 mtX11_init 71 [(1, .int 1), (0, .ref c)] [.ref c16, .int 1, .ref c11] (bm B16) (go_Z w _)
  refine go_dup dX11_init_71 rfl ?_
  refine bb_callIN2 (μ := mtX11_init) (bc := 44) (bs := 3874) (bc2 := 6) (bs2 := 715) (b := c16) (as := []) (st := [.ref c16, .int 1, .ref c11]) (B' := bX8 B16 c16) (by decide +kernel) (by decide +kernel) dX11_init_72 ll_X11_36 (ci_X8 W16 (by omega) s16) rfl (Nat.le_of_ble_eq_true rfl) (Nat.le_of_ble_eq_true rfl) (go_Z_up w _) rfl (stk_r (lt_sh s16) (stk_i (stk_r (lt_sh h16_c11) (stk_nil _)))) (lvk_i (lvk_r (lt_sh h16_c) (lvk_nil _))) ?_
  obtain ⟨B17, e17, W17, m17, K17, R17⟩ := stX8 W16 (by omega) s16
  rw [← e17]
  have l17 : B17.1.length = B.1.length + 356 := by omega
  have h17_c := K17 _ _ h16_c
  have h17_c1 := K17 _ _ h16_c1
  have h17_c5 := K17 _ _ h16_c5
  have h17_c8 := K17 _ _ h16_c8
  have h17_c11 := K17 _ _ h16_c11
  have h17_c13 := K17 _ _ h16_c13
  have h17_c16 := K17 _ _ s16
  have r17_c1_10 := (R17 c1 10 (by omega) (by omega)).trans r16_c1_10
  have r17_c_0 := (R17 c 0 (by omega) (by omega)).trans r16_c_0
  have r17_c_4 := (R17 c 4 (by omega) (by omega)).trans r16_c_4
  show Go w 4 44 3874 mtX11_init 75 [(1, .int 1), (0, .ref c)] [.ref c16, .int 1, .ref c11] (bm B17) (go_Z w _)
  refine bb_astT (j := 1) dX11_init_75 (by decide) W17 h17_c11 h17_c16 (by unfold vp_in; decide) ?_
  obtain ⟨B18, e18, W18, m18, K18, R18, v18⟩ := st_wr (c := c11) (j := 1) (q := c16) W17 (lt_sh h17_c11) (lt_sh h17_c16)
  rw [← e18]
  have l18 : B18.1.length = B.1.length + 356 := by omega
  have h18_c := K18 _ _ h17_c
  have h18_c1 := K18 _ _ h17_c1
  have h18_c5 := K18 _ _ h17_c5
  have h18_c8 := K18 _ _ h17_c8
  have h18_c11 := K18 _ _ h17_c11
  have h18_c13 := K18 _ _ h17_c13
  have h18_c16 := K18 _ _ h17_c16
  have r18_c1_10 := (R18 c1 10 (by omega)).trans r17_c1_10
  have r18_c_0 := (R18 c 0 (by omega)).trans r17_c_0
  have r18_c_4 := (R18 c 4 (by omega)).trans r17_c_4
  show Go w 4 44 3874 mtX11_init 76 [(1, .int 1), (0, .ref c)] [] (bm B18) (go_Z w _)
  refine go_iinc (v := 2) dX11_init_76 0 rfl (by decide) (by decide) rfl ?_
  show Go w 4 44 3874 mtX11_init 79 [(1, .int 2), (0, .ref c)] [] (bm B18) (go_Z w _)
  refine go_goto 58 dX11_init_79 (by decide) ?_
  refine go_iload_n dX11_init_58 0 rfl ?_
  refine go_iconst (v := 4) dX11_init_59 (by decide) ?_
  refine go_icmp_ge 82 dX11_init_60 (by decide) (fun hc => absurd hc (by decide)) (fun _ => ?_)
  refine go_aload_n dX11_init_63 1 rfl ?_
  refine go_getR dX11_init_64 ff_X11_32 (Or.inr ⟨_, rfl⟩) (show B18.1[c]? = some (11, 17) from h18_c) (show brf B18 c 4 = some c11 from r18_c_4) ?_
  refine go_iload_n dX11_init_67 0 rfl ?_
  refine bb_new2 (μ := mtX11_init) (bc := 43) (bs := 3866) (by decide +kernel) (by decide +kernel) dX11_init_68 cn_X11_30 (go_Z_up w _) W18 (by omega) (stk_i (stk_r (lt_sh h18_c11) (stk_nil _))) (lvk_i (lvk_r (lt_sh h18_c) (lvk_nil _))) ?_
  obtain ⟨c19, g19⟩ : ∃ x, x = B18.1.length := ⟨_, rfl⟩
  rw [← g19]
  have q19 : c19 = B.1.length + 356 := by omega
  obtain ⟨B19, e19, W19, m19, K19, R19, s19⟩ := st_nw W18 (8, go_N 8)
  rw [← e19]
  have l19 : B19.1.length = B.1.length + 357 := by omega
  have h19_c := K19 _ _ h18_c
  have h19_c1 := K19 _ _ h18_c1
  have h19_c5 := K19 _ _ h18_c5
  have h19_c8 := K19 _ _ h18_c8
  have h19_c11 := K19 _ _ h18_c11
  have h19_c13 := K19 _ _ h18_c13
  have h19_c16 := K19 _ _ h18_c16
  have r19_c1_10 := (R19 c1 10).trans r18_c1_10
  have r19_c_0 := (R19 c 0).trans r18_c_0
  have r19_c_4 := (R19 c 4).trans r18_c_4
  rw [← g19] at s19
  show Go w 4 43 3866 mtX11_init 71 [(1, .int 2), (0, .ref c)] [.ref c19, .int 2, .ref c11] (bm B19) (go_Z w _)
  refine go_dup dX11_init_71 rfl ?_
  refine bb_callIN2 (μ := mtX11_init) (bc := 37) (bs := 3151) (bc2 := 6) (bs2 := 715) (b := c19) (as := []) (st := [.ref c19, .int 2, .ref c11]) (B' := bX8 B19 c19) (by decide +kernel) (by decide +kernel) dX11_init_72 ll_X11_36 (ci_X8 W19 (by omega) s19) rfl (Nat.le_of_ble_eq_true rfl) (Nat.le_of_ble_eq_true rfl) (go_Z_up w _) rfl (stk_r (lt_sh s19) (stk_i (stk_r (lt_sh h19_c11) (stk_nil _)))) (lvk_i (lvk_r (lt_sh h19_c) (lvk_nil _))) ?_
  obtain ⟨B20, e20, W20, m20, K20, R20⟩ := stX8 W19 (by omega) s19
  rw [← e20]
  have l20 : B20.1.length = B.1.length + 363 := by omega
  have h20_c := K20 _ _ h19_c
  have h20_c1 := K20 _ _ h19_c1
  have h20_c5 := K20 _ _ h19_c5
  have h20_c8 := K20 _ _ h19_c8
  have h20_c11 := K20 _ _ h19_c11
  have h20_c13 := K20 _ _ h19_c13
  have h20_c16 := K20 _ _ h19_c16
  have h20_c19 := K20 _ _ s19
  have r20_c1_10 := (R20 c1 10 (by omega) (by omega)).trans r19_c1_10
  have r20_c_0 := (R20 c 0 (by omega) (by omega)).trans r19_c_0
  have r20_c_4 := (R20 c 4 (by omega) (by omega)).trans r19_c_4
  show Go w 4 37 3151 mtX11_init 75 [(1, .int 2), (0, .ref c)] [.ref c19, .int 2, .ref c11] (bm B20) (go_Z w _)
  refine bb_astT (j := 2) dX11_init_75 (by decide) W20 h20_c11 h20_c19 (by unfold vp_in; decide) ?_
  obtain ⟨B21, e21, W21, m21, K21, R21, v21⟩ := st_wr (c := c11) (j := 2) (q := c19) W20 (lt_sh h20_c11) (lt_sh h20_c19)
  rw [← e21]
  have l21 : B21.1.length = B.1.length + 363 := by omega
  have h21_c := K21 _ _ h20_c
  have h21_c1 := K21 _ _ h20_c1
  have h21_c5 := K21 _ _ h20_c5
  have h21_c8 := K21 _ _ h20_c8
  have h21_c11 := K21 _ _ h20_c11
  have h21_c13 := K21 _ _ h20_c13
  have h21_c16 := K21 _ _ h20_c16
  have h21_c19 := K21 _ _ h20_c19
  have r21_c1_10 := (R21 c1 10 (by omega)).trans r20_c1_10
  have r21_c_0 := (R21 c 0 (by omega)).trans r20_c_0
  have r21_c_4 := (R21 c 4 (by omega)).trans r20_c_4
  show Go w 4 37 3151 mtX11_init 76 [(1, .int 2), (0, .ref c)] [] (bm B21) (go_Z w _)
  refine go_iinc (v := 3) dX11_init_76 0 rfl (by decide) (by decide) rfl ?_
  show Go w 4 37 3151 mtX11_init 79 [(1, .int 3), (0, .ref c)] [] (bm B21) (go_Z w _)
  refine go_goto 58 dX11_init_79 (by decide) ?_
  refine go_iload_n dX11_init_58 0 rfl ?_
  refine go_iconst (v := 4) dX11_init_59 (by decide) ?_
  refine go_icmp_ge 82 dX11_init_60 (by decide) (fun hc => absurd hc (by decide)) (fun _ => ?_)
  refine go_aload_n dX11_init_63 1 rfl ?_
  refine go_getR dX11_init_64 ff_X11_32 (Or.inr ⟨_, rfl⟩) (show B21.1[c]? = some (11, 17) from h21_c) (show brf B21 c 4 = some c11 from r21_c_4) ?_
  refine go_iload_n dX11_init_67 0 rfl ?_
  refine bb_new2 (μ := mtX11_init) (bc := 36) (bs := 3143) (by decide +kernel) (by decide +kernel) dX11_init_68 cn_X11_30 (go_Z_up w _) W21 (by omega) (stk_i (stk_r (lt_sh h21_c11) (stk_nil _))) (lvk_i (lvk_r (lt_sh h21_c) (lvk_nil _))) ?_
  obtain ⟨c22, g22⟩ : ∃ x, x = B21.1.length := ⟨_, rfl⟩
  rw [← g22]
  have q22 : c22 = B.1.length + 363 := by omega
  obtain ⟨B22, e22, W22, m22, K22, R22, s22⟩ := st_nw W21 (8, go_N 8)
  rw [← e22]
  have l22 : B22.1.length = B.1.length + 364 := by omega
  have h22_c := K22 _ _ h21_c
  have h22_c1 := K22 _ _ h21_c1
  have h22_c5 := K22 _ _ h21_c5
  have h22_c8 := K22 _ _ h21_c8
  have h22_c11 := K22 _ _ h21_c11
  have h22_c13 := K22 _ _ h21_c13
  have h22_c16 := K22 _ _ h21_c16
  have h22_c19 := K22 _ _ h21_c19
  have r22_c1_10 := (R22 c1 10).trans r21_c1_10
  have r22_c_0 := (R22 c 0).trans r21_c_0
  have r22_c_4 := (R22 c 4).trans r21_c_4
  rw [← g22] at s22
  show Go w 4 36 3143 mtX11_init 71 [(1, .int 3), (0, .ref c)] [.ref c22, .int 3, .ref c11] (bm B22) (go_Z w _)
  refine go_dup dX11_init_71 rfl ?_
  refine bb_callIN2 (μ := mtX11_init) (bc := 30) (bs := 2428) (bc2 := 6) (bs2 := 715) (b := c22) (as := []) (st := [.ref c22, .int 3, .ref c11]) (B' := bX8 B22 c22) (by decide +kernel) (by decide +kernel) dX11_init_72 ll_X11_36 (ci_X8 W22 (by omega) s22) rfl (Nat.le_of_ble_eq_true rfl) (Nat.le_of_ble_eq_true rfl) (go_Z_up w _) rfl (stk_r (lt_sh s22) (stk_i (stk_r (lt_sh h22_c11) (stk_nil _)))) (lvk_i (lvk_r (lt_sh h22_c) (lvk_nil _))) ?_
  obtain ⟨B23, e23, W23, m23, K23, R23⟩ := stX8 W22 (by omega) s22
  rw [← e23]
  have l23 : B23.1.length = B.1.length + 370 := by omega
  have h23_c := K23 _ _ h22_c
  have h23_c1 := K23 _ _ h22_c1
  have h23_c5 := K23 _ _ h22_c5
  have h23_c8 := K23 _ _ h22_c8
  have h23_c11 := K23 _ _ h22_c11
  have h23_c13 := K23 _ _ h22_c13
  have h23_c16 := K23 _ _ h22_c16
  have h23_c19 := K23 _ _ h22_c19
  have h23_c22 := K23 _ _ s22
  have r23_c1_10 := (R23 c1 10 (by omega) (by omega)).trans r22_c1_10
  have r23_c_0 := (R23 c 0 (by omega) (by omega)).trans r22_c_0
  have r23_c_4 := (R23 c 4 (by omega) (by omega)).trans r22_c_4
  show Go w 4 30 2428 mtX11_init 75 [(1, .int 3), (0, .ref c)] [.ref c22, .int 3, .ref c11] (bm B23) (go_Z w _)
  refine bb_astT (j := 3) dX11_init_75 (by decide) W23 h23_c11 h23_c22 (by unfold vp_in; decide) ?_
  obtain ⟨B24, e24, W24, m24, K24, R24, v24⟩ := st_wr (c := c11) (j := 3) (q := c22) W23 (lt_sh h23_c11) (lt_sh h23_c22)
  rw [← e24]
  have l24 : B24.1.length = B.1.length + 370 := by omega
  have h24_c := K24 _ _ h23_c
  have h24_c1 := K24 _ _ h23_c1
  have h24_c5 := K24 _ _ h23_c5
  have h24_c8 := K24 _ _ h23_c8
  have h24_c11 := K24 _ _ h23_c11
  have h24_c13 := K24 _ _ h23_c13
  have h24_c16 := K24 _ _ h23_c16
  have h24_c19 := K24 _ _ h23_c19
  have h24_c22 := K24 _ _ h23_c22
  have r24_c1_10 := (R24 c1 10 (by omega)).trans r23_c1_10
  have r24_c_0 := (R24 c 0 (by omega)).trans r23_c_0
  have r24_c_4 := (R24 c 4 (by omega)).trans r23_c_4
  show Go w 4 30 2428 mtX11_init 76 [(1, .int 3), (0, .ref c)] [] (bm B24) (go_Z w _)
  refine go_iinc (v := 4) dX11_init_76 0 rfl (by decide) (by decide) rfl ?_
  show Go w 4 30 2428 mtX11_init 79 [(1, .int 4), (0, .ref c)] [] (bm B24) (go_Z w _)
  refine go_goto 58 dX11_init_79 (by decide) ?_
  refine go_iload_n dX11_init_58 0 rfl ?_
  refine go_iconst (v := 4) dX11_init_59 (by decide) ?_
  refine go_icmp_ge 82 dX11_init_60 (by decide) (fun _ => ?_) (fun hc => absurd (by decide) hc)
  refine go_aload_n dX11_init_82 1 rfl ?_
  refine go_sipush (v := 300) dX11_init_83 (by decide) ?_
  refine bb_na (bc := 29) (bs := 2128) (n := 300) dX11_init_86 dX11_init_88 ff_X11_37 rfl rfl (by decide) (by decide) (by omega) (go_Z_up w _) W24 (by omega) h24_c (lvk_i (lvk_r (lt_sh h24_c) (lvk_nil _))) ?_
  obtain ⟨B25, e25, W25, m25, K25, R25, v25, s25⟩ := st_arr (c := c) (j := 5) (n := 300) W24 (lt_sh h24_c)
  rw [← e25]
  have l25 : B25.1.length = B.1.length + 371 := by omega
  have h25_c := K25 _ _ h24_c
  have h25_c1 := K25 _ _ h24_c1
  have h25_c5 := K25 _ _ h24_c5
  have h25_c8 := K25 _ _ h24_c8
  have h25_c11 := K25 _ _ h24_c11
  have h25_c13 := K25 _ _ h24_c13
  have h25_c16 := K25 _ _ h24_c16
  have h25_c19 := K25 _ _ h24_c19
  have h25_c22 := K25 _ _ h24_c22
  have r25_c1_10 := (R25 c1 10 (by omega)).trans r24_c1_10
  have r25_c_0 := (R25 c 0 (by omega)).trans r24_c_0
  have r25_c_4 := (R25 c 4 (by omega)).trans r24_c_4
  obtain ⟨c25, g25⟩ : ∃ x, x = B24.1.length := ⟨_, rfl⟩
  rw [← g25] at s25 v25
  have q25 : c25 = B.1.length + 370 := by omega
  show Go w 4 29 2128 mtX11_init 91 [(1, .int 4), (0, .ref c)] [] (bm B25) (go_Z w _)
  refine go_aload_n dX11_init_91 1 rfl ?_
  refine bb_new2 (μ := mtX11_init) (bc := 28) (bs := 2118) (by decide +kernel) (by decide +kernel) dX11_init_92 cn_X11_41 (go_Z_up w _) W25 (by omega) (stk_r (lt_sh h25_c) (stk_nil _)) (lvk_i (lvk_r (lt_sh h25_c) (lvk_nil _))) ?_
  obtain ⟨c26, g26⟩ : ∃ x, x = B25.1.length := ⟨_, rfl⟩
  rw [← g26]
  have q26 : c26 = B.1.length + 371 := by omega
  obtain ⟨B26, e26, W26, m26, K26, R26, s26⟩ := st_nw W25 (6, go_N 6)
  rw [← e26]
  have l26 : B26.1.length = B.1.length + 372 := by omega
  have h26_c := K26 _ _ h25_c
  have h26_c1 := K26 _ _ h25_c1
  have h26_c5 := K26 _ _ h25_c5
  have h26_c8 := K26 _ _ h25_c8
  have h26_c11 := K26 _ _ h25_c11
  have h26_c13 := K26 _ _ h25_c13
  have h26_c16 := K26 _ _ h25_c16
  have h26_c19 := K26 _ _ h25_c19
  have h26_c22 := K26 _ _ h25_c22
  have h26_c25 := K26 _ _ s25
  have r26_c1_10 := (R26 c1 10).trans r25_c1_10
  have r26_c_0 := (R26 c 0).trans r25_c_0
  have r26_c_4 := (R26 c 4).trans r25_c_4
  have r26_c_5 := (R26 c 5).trans v25
  rw [← g26] at s26
  show Go w 4 28 2118 mtX11_init 95 [(1, .int 4), (0, .ref c)] [.ref c26, .ref c] (bm B26) (go_Z w _)
  refine go_dup dX11_init_95 rfl ?_
  refine go_aload_n dX11_init_96 1 rfl ?_
  refine go_getR dX11_init_97 ff_X11_37 (Or.inr ⟨_, rfl⟩) (show B26.1[c]? = some (11, 17) from h26_c) (show brf B26 c 5 = some c25 from r26_c_5) ?_
  refine bb_callI2 (μ := mtX11_init) (bc := 18) (bs := 492) (bc2 := 10) (bs2 := 1626) (b := c26) (as := [.ref c25]) (st := [.ref c26, .ref c]) (B' := bX6 B26 c26 c25) (by decide +kernel) (by decide +kernel) dX11_init_100 ll_X11_43 (ci_X6 W26 (by omega) s26 (lt_sh h26_c25)) rfl (Nat.le_of_ble_eq_true rfl) (Nat.le_of_ble_eq_true rfl) (go_Z_up w _) rfl (stk_r (lt_sh s26) (stk_r (lt_sh h26_c) (stk_nil _))) (lvk_i (lvk_r (lt_sh h26_c) (lvk_nil _))) ?_
  obtain ⟨B27, e27, W27, m27, K27, R27⟩ := stX6 W26 (by omega) s26 (lt_sh h26_c25)
  rw [← e27]
  have l27 : B27.1.length = B.1.length + 382 := by omega
  have h27_c := K27 _ _ h26_c
  have h27_c1 := K27 _ _ h26_c1
  have h27_c5 := K27 _ _ h26_c5
  have h27_c8 := K27 _ _ h26_c8
  have h27_c11 := K27 _ _ h26_c11
  have h27_c13 := K27 _ _ h26_c13
  have h27_c16 := K27 _ _ h26_c16
  have h27_c19 := K27 _ _ h26_c19
  have h27_c22 := K27 _ _ h26_c22
  have h27_c25 := K27 _ _ h26_c25
  have h27_c26 := K27 _ _ s26
  have r27_c1_10 := (R27 c1 10 (by omega) (by omega)).trans r26_c1_10
  have r27_c_0 := (R27 c 0 (by omega) (by omega)).trans r26_c_0
  have r27_c_4 := (R27 c 4 (by omega) (by omega)).trans r26_c_4
  have r27_c_5 := (R27 c 5 (by omega) (by omega)).trans r26_c_5
  show Go w 4 18 492 mtX11_init 103 [(1, .int 4), (0, .ref c)] [.ref c26, .ref c] (bm B27) (go_Z w _)
  refine bb_putR dX11_init_103 ff_X11_46 rfl rfl (Or.inl ⟨_, rfl⟩) W27 h27_c ?_
  obtain ⟨B28, e28, W28, m28, K28, R28, v28⟩ := st_wr (c := c) (j := 6) (q := c26) W27 (lt_sh h27_c) (lt_sh h27_c26)
  rw [← e28]
  have l28 : B28.1.length = B.1.length + 382 := by omega
  have h28_c := K28 _ _ h27_c
  have h28_c1 := K28 _ _ h27_c1
  have h28_c5 := K28 _ _ h27_c5
  have h28_c8 := K28 _ _ h27_c8
  have h28_c11 := K28 _ _ h27_c11
  have h28_c13 := K28 _ _ h27_c13
  have h28_c16 := K28 _ _ h27_c16
  have h28_c19 := K28 _ _ h27_c19
  have h28_c22 := K28 _ _ h27_c22
  have h28_c25 := K28 _ _ h27_c25
  have h28_c26 := K28 _ _ h27_c26
  have r28_c1_10 := (R28 c1 10 (by omega)).trans r27_c1_10
  have r28_c_0 := (R28 c 0 (by omega)).trans r27_c_0
  have r28_c_4 := (R28 c 4 (by omega)).trans r27_c_4
  have r28_c_5 := (R28 c 5 (by omega)).trans r27_c_5
  show Go w 4 18 492 mtX11_init 106 [(1, .int 4), (0, .ref c)] [] (bm B28) (go_Z w _)
  refine go_aload_n dX11_init_106 1 rfl ?_
  refine bb_new2 (μ := mtX11_init) (bc := 17) (bs := 489) (by decide +kernel) (by decide +kernel) dX11_init_107 cn_X11_50 (go_Z_up w _) W28 (by omega) (stk_r (lt_sh h28_c) (stk_nil _)) (lvk_i (lvk_r (lt_sh h28_c) (lvk_nil _))) ?_
  obtain ⟨c29, g29⟩ : ∃ x, x = B28.1.length := ⟨_, rfl⟩
  rw [← g29]
  have q29 : c29 = B.1.length + 382 := by omega
  obtain ⟨B29, e29, W29, m29, K29, R29, s29⟩ := st_nw W28 (2, go_N 2)
  rw [← e29]
  have l29 : B29.1.length = B.1.length + 383 := by omega
  have h29_c := K29 _ _ h28_c
  have h29_c1 := K29 _ _ h28_c1
  have h29_c5 := K29 _ _ h28_c5
  have h29_c8 := K29 _ _ h28_c8
  have h29_c11 := K29 _ _ h28_c11
  have h29_c13 := K29 _ _ h28_c13
  have h29_c16 := K29 _ _ h28_c16
  have h29_c19 := K29 _ _ h28_c19
  have h29_c22 := K29 _ _ h28_c22
  have h29_c25 := K29 _ _ h28_c25
  have h29_c26 := K29 _ _ h28_c26
  have r29_c1_10 := (R29 c1 10).trans r28_c1_10
  have r29_c_0 := (R29 c 0).trans r28_c_0
  have r29_c_4 := (R29 c 4).trans r28_c_4
  have r29_c_5 := (R29 c 5).trans r28_c_5
  rw [← g29] at s29
  show Go w 4 17 489 mtX11_init 110 [(1, .int 4), (0, .ref c)] [.ref c29, .ref c] (bm B29) (go_Z w _)
  refine go_dup dX11_init_110 rfl ?_
  refine go_aload_n dX11_init_111 1 rfl ?_
  refine go_getR dX11_init_112 ff_X11_10 (Or.inl ⟨_, rfl⟩) (show B29.1[c]? = some (11, 17) from h29_c) (show brf B29 c 0 = some c1 from r29_c_0) ?_
  refine bb_callI2 (μ := mtX11_init) (bc := 15) (bs := 384) (bc2 := 2) (bs2 := 105) (b := c29) (as := [.ref c1]) (st := [.ref c29, .ref c]) (B' := bX2 B29 c29 c1) (by decide +kernel) (by decide +kernel) dX11_init_115 ll_X11_52 (ci_X2 W29 (by omega) s29 (lt_sh h29_c1)) rfl (Nat.le_of_ble_eq_true rfl) (Nat.le_of_ble_eq_true rfl) (go_Z_up w _) rfl (stk_r (lt_sh s29) (stk_r (lt_sh h29_c) (stk_nil _))) (lvk_i (lvk_r (lt_sh h29_c) (lvk_nil _))) ?_
  obtain ⟨B30, e30, W30, m30, K30, R30⟩ := stX2 W29 (by omega) s29 (lt_sh h29_c1)
  rw [← e30]
  have l30 : B30.1.length = B.1.length + 385 := by omega
  have h30_c := K30 _ _ h29_c
  have h30_c1 := K30 _ _ h29_c1
  have h30_c5 := K30 _ _ h29_c5
  have h30_c8 := K30 _ _ h29_c8
  have h30_c11 := K30 _ _ h29_c11
  have h30_c13 := K30 _ _ h29_c13
  have h30_c16 := K30 _ _ h29_c16
  have h30_c19 := K30 _ _ h29_c19
  have h30_c22 := K30 _ _ h29_c22
  have h30_c25 := K30 _ _ h29_c25
  have h30_c26 := K30 _ _ h29_c26
  have h30_c29 := K30 _ _ s29
  have r30_c1_10 := (R30 c1 10 (by omega) (by omega)).trans r29_c1_10
  have r30_c_0 := (R30 c 0 (by omega) (by omega)).trans r29_c_0
  have r30_c_4 := (R30 c 4 (by omega) (by omega)).trans r29_c_4
  have r30_c_5 := (R30 c 5 (by omega) (by omega)).trans r29_c_5
  show Go w 4 15 384 mtX11_init 118 [(1, .int 4), (0, .ref c)] [.ref c29, .ref c] (bm B30) (go_Z w _)
  refine bb_putR dX11_init_118 ff_X11_55 rfl rfl (Or.inl ⟨_, rfl⟩) W30 h30_c ?_
  obtain ⟨B31, e31, W31, m31, K31, R31, v31⟩ := st_wr (c := c) (j := 7) (q := c29) W30 (lt_sh h30_c) (lt_sh h30_c29)
  rw [← e31]
  have l31 : B31.1.length = B.1.length + 385 := by omega
  have h31_c := K31 _ _ h30_c
  have h31_c1 := K31 _ _ h30_c1
  have h31_c5 := K31 _ _ h30_c5
  have h31_c8 := K31 _ _ h30_c8
  have h31_c11 := K31 _ _ h30_c11
  have h31_c13 := K31 _ _ h30_c13
  have h31_c16 := K31 _ _ h30_c16
  have h31_c19 := K31 _ _ h30_c19
  have h31_c22 := K31 _ _ h30_c22
  have h31_c25 := K31 _ _ h30_c25
  have h31_c26 := K31 _ _ h30_c26
  have h31_c29 := K31 _ _ h30_c29
  have r31_c1_10 := (R31 c1 10 (by omega)).trans r30_c1_10
  have r31_c_0 := (R31 c 0 (by omega)).trans r30_c_0
  have r31_c_4 := (R31 c 4 (by omega)).trans r30_c_4
  have r31_c_5 := (R31 c 5 (by omega)).trans r30_c_5
  show Go w 4 15 384 mtX11_init 121 [(1, .int 4), (0, .ref c)] [] (bm B31) (go_Z w _)
  refine go_aload_n dX11_init_121 1 rfl ?_
  refine bb_new2 (μ := mtX11_init) (bc := 14) (bs := 382) (by decide +kernel) (by decide +kernel) dX11_init_122 cn_X11_59 (go_Z_up w _) W31 (by omega) (stk_r (lt_sh h31_c) (stk_nil _)) (lvk_i (lvk_r (lt_sh h31_c) (lvk_nil _))) ?_
  obtain ⟨c32, g32⟩ : ∃ x, x = B31.1.length := ⟨_, rfl⟩
  rw [← g32]
  have q32 : c32 = B.1.length + 385 := by omega
  obtain ⟨B32, e32, W32, m32, K32, R32, s32⟩ := st_nw W31 (0, go_N 0)
  rw [← e32]
  have l32 : B32.1.length = B.1.length + 386 := by omega
  have h32_c := K32 _ _ h31_c
  have h32_c1 := K32 _ _ h31_c1
  have h32_c5 := K32 _ _ h31_c5
  have h32_c8 := K32 _ _ h31_c8
  have h32_c11 := K32 _ _ h31_c11
  have h32_c13 := K32 _ _ h31_c13
  have h32_c16 := K32 _ _ h31_c16
  have h32_c19 := K32 _ _ h31_c19
  have h32_c22 := K32 _ _ h31_c22
  have h32_c25 := K32 _ _ h31_c25
  have h32_c26 := K32 _ _ h31_c26
  have h32_c29 := K32 _ _ h31_c29
  have r32_c1_10 := (R32 c1 10).trans r31_c1_10
  have r32_c_0 := (R32 c 0).trans r31_c_0
  have r32_c_4 := (R32 c 4).trans r31_c_4
  have r32_c_5 := (R32 c 5).trans r31_c_5
  have r32_c_7 := (R32 c 7).trans v31
  rw [← g32] at s32
  show Go w 4 14 382 mtX11_init 125 [(1, .int 4), (0, .ref c)] [.ref c32, .ref c] (bm B32) (go_Z w _)
  refine go_dup dX11_init_125 rfl ?_
  refine go_aload_n dX11_init_126 1 rfl ?_
  refine go_getR dX11_init_127 ff_X11_10 (Or.inl ⟨_, rfl⟩) (show B32.1[c]? = some (11, 17) from h32_c) (show brf B32 c 0 = some c1 from r32_c_0) ?_
  refine go_aload_n dX11_init_130 1 rfl ?_
  refine go_getR dX11_init_131 ff_X11_55 (Or.inl ⟨_, rfl⟩) (show B32.1[c]? = some (11, 17) from h32_c) (show brf B32 c 7 = some c29 from r32_c_7) ?_
  refine bb_callI2 (μ := mtX11_init) (bc := 14) (bs := 382) (bc2 := 0) (bs2 := 0) (b := c32) (as := [.ref c1, .ref c29]) (st := [.ref c32, .ref c]) (B' := bX0 B32 c32 c1 c29) (by decide +kernel) (by decide +kernel) dX11_init_134 ll_X11_61 (ci_X0 W32 (by omega) s32 (lt_sh h32_c1) (lt_sh h32_c29)) rfl (Nat.le_of_ble_eq_true rfl) (Nat.le_of_ble_eq_true rfl) (go_Z_up w _) rfl (stk_r (lt_sh s32) (stk_r (lt_sh h32_c) (stk_nil _))) (lvk_i (lvk_r (lt_sh h32_c) (lvk_nil _))) ?_
  obtain ⟨B33, e33, W33, m33, K33, R33⟩ := stX0 W32 (by omega) s32 (lt_sh h32_c1) (lt_sh h32_c29)
  rw [← e33]
  have l33 : B33.1.length = B.1.length + 386 := by omega
  have h33_c := K33 _ _ h32_c
  have h33_c1 := K33 _ _ h32_c1
  have h33_c5 := K33 _ _ h32_c5
  have h33_c8 := K33 _ _ h32_c8
  have h33_c11 := K33 _ _ h32_c11
  have h33_c13 := K33 _ _ h32_c13
  have h33_c16 := K33 _ _ h32_c16
  have h33_c19 := K33 _ _ h32_c19
  have h33_c22 := K33 _ _ h32_c22
  have h33_c25 := K33 _ _ h32_c25
  have h33_c26 := K33 _ _ h32_c26
  have h33_c29 := K33 _ _ h32_c29
  have h33_c32 := K33 _ _ s32
  have r33_c1_10 := (R33 c1 10 (by omega) (by omega)).trans r32_c1_10
  have r33_c_0 := (R33 c 0 (by omega) (by omega)).trans r32_c_0
  have r33_c_4 := (R33 c 4 (by omega) (by omega)).trans r32_c_4
  have r33_c_5 := (R33 c 5 (by omega) (by omega)).trans r32_c_5
  have r33_c_7 := (R33 c 7 (by omega) (by omega)).trans r32_c_7
  show Go w 4 14 382 mtX11_init 137 [(1, .int 4), (0, .ref c)] [.ref c32, .ref c] (bm B33) (go_Z w _)
  refine bb_putR dX11_init_137 ff_X11_64 rfl rfl (Or.inl ⟨_, rfl⟩) W33 h33_c ?_
  obtain ⟨B34, e34, W34, m34, K34, R34, v34⟩ := st_wr (c := c) (j := 8) (q := c32) W33 (lt_sh h33_c) (lt_sh h33_c32)
  rw [← e34]
  have l34 : B34.1.length = B.1.length + 386 := by omega
  have h34_c := K34 _ _ h33_c
  have h34_c1 := K34 _ _ h33_c1
  have h34_c5 := K34 _ _ h33_c5
  have h34_c8 := K34 _ _ h33_c8
  have h34_c11 := K34 _ _ h33_c11
  have h34_c13 := K34 _ _ h33_c13
  have h34_c16 := K34 _ _ h33_c16
  have h34_c19 := K34 _ _ h33_c19
  have h34_c22 := K34 _ _ h33_c22
  have h34_c25 := K34 _ _ h33_c25
  have h34_c26 := K34 _ _ h33_c26
  have h34_c29 := K34 _ _ h33_c29
  have h34_c32 := K34 _ _ h33_c32
  have r34_c1_10 := (R34 c1 10 (by omega)).trans r33_c1_10
  have r34_c_0 := (R34 c 0 (by omega)).trans r33_c_0
  have r34_c_4 := (R34 c 4 (by omega)).trans r33_c_4
  have r34_c_5 := (R34 c 5 (by omega)).trans r33_c_5
  have r34_c_7 := (R34 c 7 (by omega)).trans r33_c_7
  show Go w 4 14 382 mtX11_init 140 [(1, .int 4), (0, .ref c)] [] (bm B34) (go_Z w _)
  refine go_aload_n dX11_init_140 1 rfl ?_
  refine bb_new2 (μ := mtX11_init) (bc := 13) (bs := 375) (by decide +kernel) (by decide +kernel) dX11_init_141 cn_X11_68 (go_Z_up w _) W34 (by omega) (stk_r (lt_sh h34_c) (stk_nil _)) (lvk_i (lvk_r (lt_sh h34_c) (lvk_nil _))) ?_
  obtain ⟨c35, g35⟩ : ∃ x, x = B34.1.length := ⟨_, rfl⟩
  rw [← g35]
  have q35 : c35 = B.1.length + 386 := by omega
  obtain ⟨B35, e35, W35, m35, K35, R35, s35⟩ := st_nw W34 (4, go_N 4)
  rw [← e35]
  have l35 : B35.1.length = B.1.length + 387 := by omega
  have h35_c := K35 _ _ h34_c
  have h35_c1 := K35 _ _ h34_c1
  have h35_c5 := K35 _ _ h34_c5
  have h35_c8 := K35 _ _ h34_c8
  have h35_c11 := K35 _ _ h34_c11
  have h35_c13 := K35 _ _ h34_c13
  have h35_c16 := K35 _ _ h34_c16
  have h35_c19 := K35 _ _ h34_c19
  have h35_c22 := K35 _ _ h34_c22
  have h35_c25 := K35 _ _ h34_c25
  have h35_c26 := K35 _ _ h34_c26
  have h35_c29 := K35 _ _ h34_c29
  have h35_c32 := K35 _ _ h34_c32
  have r35_c1_10 := (R35 c1 10).trans r34_c1_10
  have r35_c_0 := (R35 c 0).trans r34_c_0
  have r35_c_4 := (R35 c 4).trans r34_c_4
  have r35_c_5 := (R35 c 5).trans r34_c_5
  have r35_c_7 := (R35 c 7).trans r34_c_7
  rw [← g35] at s35
  show Go w 4 13 375 mtX11_init 144 [(1, .int 4), (0, .ref c)] [.ref c35, .ref c] (bm B35) (go_Z w _)
  refine go_dup dX11_init_144 rfl ?_
  refine go_aload_n dX11_init_145 1 rfl ?_
  refine go_getR dX11_init_146 ff_X11_10 (Or.inl ⟨_, rfl⟩) (show B35.1[c]? = some (11, 17) from h35_c) (show brf B35 c 0 = some c1 from r35_c_0) ?_
  refine bb_callI2 (μ := mtX11_init) (bc := 7) (bs := 343) (bc2 := 6) (bs2 := 32) (b := c35) (as := [.ref c1]) (st := [.ref c35, .ref c]) (B' := bX4 B35 c35 c1) (by decide +kernel) (by decide +kernel) dX11_init_149 ll_X11_70 (ci_X4 W35 (by omega) s35 (lt_sh h35_c1)) rfl (Nat.le_of_ble_eq_true rfl) (Nat.le_of_ble_eq_true rfl) (go_Z_up w _) rfl (stk_r (lt_sh s35) (stk_r (lt_sh h35_c) (stk_nil _))) (lvk_i (lvk_r (lt_sh h35_c) (lvk_nil _))) ?_
  obtain ⟨B36, e36, W36, m36, K36, R36⟩ := stX4 W35 (by omega) s35 (lt_sh h35_c1)
  rw [← e36]
  have l36 : B36.1.length = B.1.length + 393 := by omega
  have h36_c := K36 _ _ h35_c
  have h36_c1 := K36 _ _ h35_c1
  have h36_c5 := K36 _ _ h35_c5
  have h36_c8 := K36 _ _ h35_c8
  have h36_c11 := K36 _ _ h35_c11
  have h36_c13 := K36 _ _ h35_c13
  have h36_c16 := K36 _ _ h35_c16
  have h36_c19 := K36 _ _ h35_c19
  have h36_c22 := K36 _ _ h35_c22
  have h36_c25 := K36 _ _ h35_c25
  have h36_c26 := K36 _ _ h35_c26
  have h36_c29 := K36 _ _ h35_c29
  have h36_c32 := K36 _ _ h35_c32
  have h36_c35 := K36 _ _ s35
  have r36_c1_10 := (R36 c1 10 (by omega) (by omega)).trans r35_c1_10
  have r36_c_0 := (R36 c 0 (by omega) (by omega)).trans r35_c_0
  have r36_c_4 := (R36 c 4 (by omega) (by omega)).trans r35_c_4
  have r36_c_5 := (R36 c 5 (by omega) (by omega)).trans r35_c_5
  have r36_c_7 := (R36 c 7 (by omega) (by omega)).trans r35_c_7
  show Go w 4 7 343 mtX11_init 152 [(1, .int 4), (0, .ref c)] [.ref c35, .ref c] (bm B36) (go_Z w _)
  refine bb_putR dX11_init_152 ff_X11_71 rfl rfl (Or.inl ⟨_, rfl⟩) W36 h36_c ?_
  obtain ⟨B37, e37, W37, m37, K37, R37, v37⟩ := st_wr (c := c) (j := 9) (q := c35) W36 (lt_sh h36_c) (lt_sh h36_c35)
  rw [← e37]
  have l37 : B37.1.length = B.1.length + 393 := by omega
  have h37_c := K37 _ _ h36_c
  have h37_c1 := K37 _ _ h36_c1
  have h37_c5 := K37 _ _ h36_c5
  have h37_c8 := K37 _ _ h36_c8
  have h37_c11 := K37 _ _ h36_c11
  have h37_c13 := K37 _ _ h36_c13
  have h37_c16 := K37 _ _ h36_c16
  have h37_c19 := K37 _ _ h36_c19
  have h37_c22 := K37 _ _ h36_c22
  have h37_c25 := K37 _ _ h36_c25
  have h37_c26 := K37 _ _ h36_c26
  have h37_c29 := K37 _ _ h36_c29
  have h37_c32 := K37 _ _ h36_c32
  have h37_c35 := K37 _ _ h36_c35
  have r37_c1_10 := (R37 c1 10 (by omega)).trans r36_c1_10
  have r37_c_0 := (R37 c 0 (by omega)).trans r36_c_0
  have r37_c_4 := (R37 c 4 (by omega)).trans r36_c_4
  have r37_c_5 := (R37 c 5 (by omega)).trans r36_c_5
  have r37_c_7 := (R37 c 7 (by omega)).trans r36_c_7
  show Go w 4 7 343 mtX11_init 155 [(1, .int 4), (0, .ref c)] [] (bm B37) (go_Z w _)
  refine go_aload_n dX11_init_155 1 rfl ?_
  refine bb_new2 (μ := mtX11_init) (bc := 6) (bs := 338) (by decide +kernel) (by decide +kernel) dX11_init_156 cn_X11_75 (go_Z_up w _) W37 (by omega) (stk_r (lt_sh h37_c) (stk_nil _)) (lvk_i (lvk_r (lt_sh h37_c) (lvk_nil _))) ?_
  obtain ⟨c38, g38⟩ : ∃ x, x = B37.1.length := ⟨_, rfl⟩
  rw [← g38]
  have q38 : c38 = B.1.length + 393 := by omega
  obtain ⟨B38, e38, W38, m38, K38, R38, s38⟩ := st_nw W37 (1, go_N 1)
  rw [← e38]
  have l38 : B38.1.length = B.1.length + 394 := by omega
  have h38_c := K38 _ _ h37_c
  have h38_c1 := K38 _ _ h37_c1
  have h38_c5 := K38 _ _ h37_c5
  have h38_c8 := K38 _ _ h37_c8
  have h38_c11 := K38 _ _ h37_c11
  have h38_c13 := K38 _ _ h37_c13
  have h38_c16 := K38 _ _ h37_c16
  have h38_c19 := K38 _ _ h37_c19
  have h38_c22 := K38 _ _ h37_c22
  have h38_c25 := K38 _ _ h37_c25
  have h38_c26 := K38 _ _ h37_c26
  have h38_c29 := K38 _ _ h37_c29
  have h38_c32 := K38 _ _ h37_c32
  have h38_c35 := K38 _ _ h37_c35
  have r38_c1_10 := (R38 c1 10).trans r37_c1_10
  have r38_c_0 := (R38 c 0).trans r37_c_0
  have r38_c_4 := (R38 c 4).trans r37_c_4
  have r38_c_5 := (R38 c 5).trans r37_c_5
  have r38_c_7 := (R38 c 7).trans r37_c_7
  rw [← g38] at s38
  show Go w 4 6 338 mtX11_init 159 [(1, .int 4), (0, .ref c)] [.ref c38, .ref c] (bm B38) (go_Z w _)
  refine go_dup dX11_init_159 rfl ?_
  refine go_aload_n dX11_init_160 1 rfl ?_
  refine go_getR dX11_init_161 ff_X11_10 (Or.inl ⟨_, rfl⟩) (show B38.1[c]? = some (11, 17) from h38_c) (show brf B38 c 0 = some c1 from r38_c_0) ?_
  refine bb_callI2 (μ := mtX11_init) (bc := 3) (bs := 14) (bc2 := 3) (bs2 := 324) (b := c38) (as := [.ref c1]) (st := [.ref c38, .ref c]) (B' := bX1 B38 c38 c1) (by decide +kernel) (by decide +kernel) dX11_init_164 ll_X11_77 (ci_X1 W38 (by omega) s38 (lt_sh h38_c1)) rfl (Nat.le_of_ble_eq_true rfl) (Nat.le_of_ble_eq_true rfl) (go_Z_up w _) rfl (stk_r (lt_sh s38) (stk_r (lt_sh h38_c) (stk_nil _))) (lvk_i (lvk_r (lt_sh h38_c) (lvk_nil _))) ?_
  obtain ⟨B39, e39, W39, m39, K39, R39⟩ := stX1 W38 (by omega) s38 (lt_sh h38_c1)
  rw [← e39]
  have l39 : B39.1.length = B.1.length + 397 := by omega
  have h39_c := K39 _ _ h38_c
  have h39_c1 := K39 _ _ h38_c1
  have h39_c5 := K39 _ _ h38_c5
  have h39_c8 := K39 _ _ h38_c8
  have h39_c11 := K39 _ _ h38_c11
  have h39_c13 := K39 _ _ h38_c13
  have h39_c16 := K39 _ _ h38_c16
  have h39_c19 := K39 _ _ h38_c19
  have h39_c22 := K39 _ _ h38_c22
  have h39_c25 := K39 _ _ h38_c25
  have h39_c26 := K39 _ _ h38_c26
  have h39_c29 := K39 _ _ h38_c29
  have h39_c32 := K39 _ _ h38_c32
  have h39_c35 := K39 _ _ h38_c35
  have h39_c38 := K39 _ _ s38
  have r39_c1_10 := (R39 c1 10 (by omega) (by omega)).trans r38_c1_10
  have r39_c_0 := (R39 c 0 (by omega) (by omega)).trans r38_c_0
  have r39_c_4 := (R39 c 4 (by omega) (by omega)).trans r38_c_4
  have r39_c_5 := (R39 c 5 (by omega) (by omega)).trans r38_c_5
  have r39_c_7 := (R39 c 7 (by omega) (by omega)).trans r38_c_7
  show Go w 4 3 14 mtX11_init 167 [(1, .int 4), (0, .ref c)] [.ref c38, .ref c] (bm B39) (go_Z w _)
  refine bb_putR dX11_init_167 ff_X11_78 rfl rfl (Or.inl ⟨_, rfl⟩) W39 h39_c ?_
  obtain ⟨B40, e40, W40, m40, K40, R40, v40⟩ := st_wr (c := c) (j := 10) (q := c38) W39 (lt_sh h39_c) (lt_sh h39_c38)
  rw [← e40]
  have l40 : B40.1.length = B.1.length + 397 := by omega
  have h40_c := K40 _ _ h39_c
  have h40_c1 := K40 _ _ h39_c1
  have h40_c5 := K40 _ _ h39_c5
  have h40_c8 := K40 _ _ h39_c8
  have h40_c11 := K40 _ _ h39_c11
  have h40_c13 := K40 _ _ h39_c13
  have h40_c16 := K40 _ _ h39_c16
  have h40_c19 := K40 _ _ h39_c19
  have h40_c22 := K40 _ _ h39_c22
  have h40_c25 := K40 _ _ h39_c25
  have h40_c26 := K40 _ _ h39_c26
  have h40_c29 := K40 _ _ h39_c29
  have h40_c32 := K40 _ _ h39_c32
  have h40_c35 := K40 _ _ h39_c35
  have h40_c38 := K40 _ _ h39_c38
  have r40_c1_10 := (R40 c1 10 (by omega)).trans r39_c1_10
  have r40_c_0 := (R40 c 0 (by omega)).trans r39_c_0
  have r40_c_4 := (R40 c 4 (by omega)).trans r39_c_4
  have r40_c_5 := (R40 c 5 (by omega)).trans r39_c_5
  have r40_c_7 := (R40 c 7 (by omega)).trans r39_c_7
  show Go w 4 3 14 mtX11_init 170 [(1, .int 4), (0, .ref c)] [] (bm B40) (go_Z w _)
  refine go_aload_n dX11_init_170 1 rfl ?_
  refine bb_new2 (μ := mtX11_init) (bc := 2) (bs := 13) (by decide +kernel) (by decide +kernel) dX11_init_171 cn_X11_82 (go_Z_up w _) W40 (by omega) (stk_r (lt_sh h40_c) (stk_nil _)) (lvk_i (lvk_r (lt_sh h40_c) (lvk_nil _))) ?_
  obtain ⟨c41, g41⟩ : ∃ x, x = B40.1.length := ⟨_, rfl⟩
  rw [← g41]
  have q41 : c41 = B.1.length + 397 := by omega
  obtain ⟨B41, e41, W41, m41, K41, R41, s41⟩ := st_nw W40 (3, go_N 3)
  rw [← e41]
  have l41 : B41.1.length = B.1.length + 398 := by omega
  have h41_c := K41 _ _ h40_c
  have h41_c1 := K41 _ _ h40_c1
  have h41_c5 := K41 _ _ h40_c5
  have h41_c8 := K41 _ _ h40_c8
  have h41_c11 := K41 _ _ h40_c11
  have h41_c13 := K41 _ _ h40_c13
  have h41_c16 := K41 _ _ h40_c16
  have h41_c19 := K41 _ _ h40_c19
  have h41_c22 := K41 _ _ h40_c22
  have h41_c25 := K41 _ _ h40_c25
  have h41_c26 := K41 _ _ h40_c26
  have h41_c29 := K41 _ _ h40_c29
  have h41_c32 := K41 _ _ h40_c32
  have h41_c35 := K41 _ _ h40_c35
  have h41_c38 := K41 _ _ h40_c38
  have r41_c1_10 := (R41 c1 10).trans r40_c1_10
  have r41_c_0 := (R41 c 0).trans r40_c_0
  have r41_c_4 := (R41 c 4).trans r40_c_4
  have r41_c_5 := (R41 c 5).trans r40_c_5
  have r41_c_7 := (R41 c 7).trans r40_c_7
  rw [← g41] at s41
  show Go w 4 2 13 mtX11_init 174 [(1, .int 4), (0, .ref c)] [.ref c41, .ref c] (bm B41) (go_Z w _)
  refine go_dup dX11_init_174 rfl ?_
  refine go_aload_n dX11_init_175 1 rfl ?_
  refine go_getR dX11_init_176 ff_X11_10 (Or.inl ⟨_, rfl⟩) (show B41.1[c]? = some (11, 17) from h41_c) (show brf B41 c 0 = some c1 from r41_c_0) ?_
  refine bb_callI2 (μ := mtX11_init) (bc := 2) (bs := 13) (bc2 := 0) (bs2 := 0) (b := c41) (as := [.ref c1]) (st := [.ref c41, .ref c]) (B' := bX3 B41 c41 c1) (by decide +kernel) (by decide +kernel) dX11_init_179 ll_X11_84 (ci_X3 W41 (by omega) s41 (lt_sh h41_c1)) rfl (Nat.le_of_ble_eq_true rfl) (Nat.le_of_ble_eq_true rfl) (go_Z_up w _) rfl (stk_r (lt_sh s41) (stk_r (lt_sh h41_c) (stk_nil _))) (lvk_i (lvk_r (lt_sh h41_c) (lvk_nil _))) ?_
  obtain ⟨B42, e42, W42, m42, K42, R42⟩ := stX3 W41 (by omega) s41 (lt_sh h41_c1)
  rw [← e42]
  have l42 : B42.1.length = B.1.length + 398 := by omega
  have h42_c := K42 _ _ h41_c
  have h42_c1 := K42 _ _ h41_c1
  have h42_c5 := K42 _ _ h41_c5
  have h42_c8 := K42 _ _ h41_c8
  have h42_c11 := K42 _ _ h41_c11
  have h42_c13 := K42 _ _ h41_c13
  have h42_c16 := K42 _ _ h41_c16
  have h42_c19 := K42 _ _ h41_c19
  have h42_c22 := K42 _ _ h41_c22
  have h42_c25 := K42 _ _ h41_c25
  have h42_c26 := K42 _ _ h41_c26
  have h42_c29 := K42 _ _ h41_c29
  have h42_c32 := K42 _ _ h41_c32
  have h42_c35 := K42 _ _ h41_c35
  have h42_c38 := K42 _ _ h41_c38
  have h42_c41 := K42 _ _ s41
  have r42_c1_10 := (R42 c1 10 (by omega) (by omega)).trans r41_c1_10
  have r42_c_0 := (R42 c 0 (by omega) (by omega)).trans r41_c_0
  have r42_c_4 := (R42 c 4 (by omega) (by omega)).trans r41_c_4
  have r42_c_5 := (R42 c 5 (by omega) (by omega)).trans r41_c_5
  have r42_c_7 := (R42 c 7 (by omega) (by omega)).trans r41_c_7
  show Go w 4 2 13 mtX11_init 182 [(1, .int 4), (0, .ref c)] [.ref c41, .ref c] (bm B42) (go_Z w _)
  refine bb_putR dX11_init_182 ff_X11_85 rfl rfl (Or.inl ⟨_, rfl⟩) W42 h42_c ?_
  obtain ⟨B43, e43, W43, m43, K43, R43, v43⟩ := st_wr (c := c) (j := 11) (q := c41) W42 (lt_sh h42_c) (lt_sh h42_c41)
  rw [← e43]
  have l43 : B43.1.length = B.1.length + 398 := by omega
  have h43_c := K43 _ _ h42_c
  have h43_c1 := K43 _ _ h42_c1
  have h43_c5 := K43 _ _ h42_c5
  have h43_c8 := K43 _ _ h42_c8
  have h43_c11 := K43 _ _ h42_c11
  have h43_c13 := K43 _ _ h42_c13
  have h43_c16 := K43 _ _ h42_c16
  have h43_c19 := K43 _ _ h42_c19
  have h43_c22 := K43 _ _ h42_c22
  have h43_c25 := K43 _ _ h42_c25
  have h43_c26 := K43 _ _ h42_c26
  have h43_c29 := K43 _ _ h42_c29
  have h43_c32 := K43 _ _ h42_c32
  have h43_c35 := K43 _ _ h42_c35
  have h43_c38 := K43 _ _ h42_c38
  have h43_c41 := K43 _ _ h42_c41
  have r43_c1_10 := (R43 c1 10 (by omega)).trans r42_c1_10
  have r43_c_0 := (R43 c 0 (by omega)).trans r42_c_0
  have r43_c_4 := (R43 c 4 (by omega)).trans r42_c_4
  have r43_c_5 := (R43 c 5 (by omega)).trans r42_c_5
  have r43_c_7 := (R43 c 7 (by omega)).trans r42_c_7
  show Go w 4 2 13 mtX11_init 185 [(1, .int 4), (0, .ref c)] [] (bm B43) (go_Z w _)
  refine go_aload_n dX11_init_185 1 rfl ?_
  refine bb_new2 (μ := mtX11_init) (bc := 1) (bs := 10) (by decide +kernel) (by decide +kernel) dX11_init_186 cn_X11_89 (go_Z_up w _) W43 (by omega) (stk_r (lt_sh h43_c) (stk_nil _)) (lvk_i (lvk_r (lt_sh h43_c) (lvk_nil _))) ?_
  obtain ⟨c44, g44⟩ : ∃ x, x = B43.1.length := ⟨_, rfl⟩
  rw [← g44]
  have q44 : c44 = B.1.length + 398 := by omega
  obtain ⟨B44, e44, W44, m44, K44, R44, s44⟩ := st_nw W43 (5, go_N 5)
  rw [← e44]
  have l44 : B44.1.length = B.1.length + 399 := by omega
  have h44_c := K44 _ _ h43_c
  have h44_c1 := K44 _ _ h43_c1
  have h44_c5 := K44 _ _ h43_c5
  have h44_c8 := K44 _ _ h43_c8
  have h44_c11 := K44 _ _ h43_c11
  have h44_c13 := K44 _ _ h43_c13
  have h44_c16 := K44 _ _ h43_c16
  have h44_c19 := K44 _ _ h43_c19
  have h44_c22 := K44 _ _ h43_c22
  have h44_c25 := K44 _ _ h43_c25
  have h44_c26 := K44 _ _ h43_c26
  have h44_c29 := K44 _ _ h43_c29
  have h44_c32 := K44 _ _ h43_c32
  have h44_c35 := K44 _ _ h43_c35
  have h44_c38 := K44 _ _ h43_c38
  have h44_c41 := K44 _ _ h43_c41
  have r44_c1_10 := (R44 c1 10).trans r43_c1_10
  have r44_c_0 := (R44 c 0).trans r43_c_0
  have r44_c_4 := (R44 c 4).trans r43_c_4
  have r44_c_5 := (R44 c 5).trans r43_c_5
  have r44_c_7 := (R44 c 7).trans r43_c_7
  rw [← g44] at s44
  show Go w 4 1 10 mtX11_init 189 [(1, .int 4), (0, .ref c)] [.ref c44, .ref c] (bm B44) (go_Z w _)
  refine go_dup dX11_init_189 rfl ?_
  refine go_aload_n dX11_init_190 1 rfl ?_
  refine go_getR dX11_init_191 ff_X11_55 (Or.inl ⟨_, rfl⟩) (show B44.1[c]? = some (11, 17) from h44_c) (show brf B44 c 7 = some c29 from r44_c_7) ?_
  refine bb_callI2 (μ := mtX11_init) (bc := 0) (bs := 0) (bc2 := 1) (bs2 := 10) (b := c44) (as := [.ref c29]) (st := [.ref c44, .ref c]) (B' := bX5 B44 c44 c29) (by decide +kernel) (by decide +kernel) dX11_init_194 ll_X11_91 (ci_X5 W44 (by omega) s44 (lt_sh h44_c29)) rfl (Nat.le_of_ble_eq_true rfl) (Nat.le_of_ble_eq_true rfl) (go_Z_up w _) rfl (stk_r (lt_sh s44) (stk_r (lt_sh h44_c) (stk_nil _))) (lvk_i (lvk_r (lt_sh h44_c) (lvk_nil _))) ?_
  obtain ⟨B45, e45, W45, m45, K45, R45⟩ := stX5 W44 (by omega) s44 (lt_sh h44_c29)
  rw [← e45]
  have l45 : B45.1.length = B.1.length + 400 := by omega
  have h45_c := K45 _ _ h44_c
  have h45_c1 := K45 _ _ h44_c1
  have h45_c5 := K45 _ _ h44_c5
  have h45_c8 := K45 _ _ h44_c8
  have h45_c11 := K45 _ _ h44_c11
  have h45_c13 := K45 _ _ h44_c13
  have h45_c16 := K45 _ _ h44_c16
  have h45_c19 := K45 _ _ h44_c19
  have h45_c22 := K45 _ _ h44_c22
  have h45_c25 := K45 _ _ h44_c25
  have h45_c26 := K45 _ _ h44_c26
  have h45_c29 := K45 _ _ h44_c29
  have h45_c32 := K45 _ _ h44_c32
  have h45_c35 := K45 _ _ h44_c35
  have h45_c38 := K45 _ _ h44_c38
  have h45_c41 := K45 _ _ h44_c41
  have h45_c44 := K45 _ _ s44
  have r45_c1_10 := (R45 c1 10 (by omega) (by omega)).trans r44_c1_10
  have r45_c_0 := (R45 c 0 (by omega) (by omega)).trans r44_c_0
  have r45_c_4 := (R45 c 4 (by omega) (by omega)).trans r44_c_4
  have r45_c_5 := (R45 c 5 (by omega) (by omega)).trans r44_c_5
  have r45_c_7 := (R45 c 7 (by omega) (by omega)).trans r44_c_7
  show Go w 4 0 0 mtX11_init 197 [(1, .int 4), (0, .ref c)] [.ref c44, .ref c] (bm B45) (go_Z w _)
  refine bb_putR dX11_init_197 ff_X11_94 rfl rfl (Or.inl ⟨_, rfl⟩) W45 h45_c ?_
  obtain ⟨B46, e46, W46, m46, K46, R46, v46⟩ := st_wr (c := c) (j := 12) (q := c44) W45 (lt_sh h45_c) (lt_sh h45_c44)
  rw [← e46]
  have l46 : B46.1.length = B.1.length + 400 := by omega
  have h46_c := K46 _ _ h45_c
  have h46_c1 := K46 _ _ h45_c1
  have h46_c5 := K46 _ _ h45_c5
  have h46_c8 := K46 _ _ h45_c8
  have h46_c11 := K46 _ _ h45_c11
  have h46_c13 := K46 _ _ h45_c13
  have h46_c16 := K46 _ _ h45_c16
  have h46_c19 := K46 _ _ h45_c19
  have h46_c22 := K46 _ _ h45_c22
  have h46_c25 := K46 _ _ h45_c25
  have h46_c26 := K46 _ _ h45_c26
  have h46_c29 := K46 _ _ h45_c29
  have h46_c32 := K46 _ _ h45_c32
  have h46_c35 := K46 _ _ h45_c35
  have h46_c38 := K46 _ _ h45_c38
  have h46_c41 := K46 _ _ h45_c41
  have h46_c44 := K46 _ _ h45_c44
  have r46_c1_10 := (R46 c1 10 (by omega)).trans r45_c1_10
  have r46_c_0 := (R46 c 0 (by omega)).trans r45_c_0
  have r46_c_4 := (R46 c 4 (by omega)).trans r45_c_4
  have r46_c_5 := (R46 c 5 (by omega)).trans r45_c_5
  have r46_c_7 := (R46 c 7 (by omega)).trans r45_c_7
  show Go w 4 0 0 mtX11_init 200 [(1, .int 4), (0, .ref c)] [] (bm B46) (go_Z w _)
  refine go_aload_n dX11_init_200 1 rfl ?_
  refine go_iconst (v := (-1)) dX11_init_201 (by decide) ?_
  refine bb_putI dX11_init_202 ff_X11_98 (Or.inl rfl) W46 h46_c ?_
  obtain ⟨B47, e47, W47, m47, K47, R47⟩ := st_wi (c := c) (j := 16) (v := (-1)) W46
  rw [← e47]
  have l47 : B47.1.length = B.1.length + 400 := by omega
  have h47_c := K47 _ _ h46_c
  have h47_c1 := K47 _ _ h46_c1
  have h47_c5 := K47 _ _ h46_c5
  have h47_c8 := K47 _ _ h46_c8
  have h47_c11 := K47 _ _ h46_c11
  have h47_c13 := K47 _ _ h46_c13
  have h47_c16 := K47 _ _ h46_c16
  have h47_c19 := K47 _ _ h46_c19
  have h47_c22 := K47 _ _ h46_c22
  have h47_c25 := K47 _ _ h46_c25
  have h47_c26 := K47 _ _ h46_c26
  have h47_c29 := K47 _ _ h46_c29
  have h47_c32 := K47 _ _ h46_c32
  have h47_c35 := K47 _ _ h46_c35
  have h47_c38 := K47 _ _ h46_c38
  have h47_c41 := K47 _ _ h46_c41
  have h47_c44 := K47 _ _ h46_c44
  have r47_c1_10 := (R47 c1 10).trans r46_c1_10
  have r47_c_0 := (R47 c 0).trans r46_c_0
  have r47_c_4 := (R47 c 4).trans r46_c_4
  have r47_c_5 := (R47 c 5).trans r46_c_5
  have r47_c_7 := (R47 c 7).trans r46_c_7
  show Go w 4 0 0 mtX11_init 205 [(1, .int 4), (0, .ref c)] [] (bm B47) (go_Z w _)
  exact go_vret dX11_init_205 rfl ⟨rfl, by rw [e47, e46, e45, e44, g44, e43, e42, e41, g41, e40, e39, e38, g38, e37, e36, e35, g35, e34, e33, e32, g32, e31, e30, e29, g29, e28, e27, e26, g26, e25, g25, e24, e23, e22, g22, e21, e20, e19, g19, e18, e17, e16, g16, e15, e14, e13, g13, e12, e11, g11, e10, e9, e8, g8, e7, e6, e5, g5, e4, e3, e2, gw, e1, g1]; rfl⟩
