/-! ===== the reference is made ===== -/
def bX12 (B : BB) : BB :=
  let c1 := B.1.length
  let B1 := b_arr B 401 0 1792
  let B2 := b_arr B1 401 1 1792
  let B3 := b_arr B2 401 2 2724
  let B4 := b_arr B3 401 3 300
  let B5 := b_wi B4 401 5 (-1)
  let B6 := b_wi B5 401 6 (-1)
  let B7 := b_arr B6 401 15 160
  let B8 := b_arr B7 401 20 9
  let B9 := b_arl B8 401 21 330
  let B10 := b_arz B9 401 22 330
  let B11 := b_wi B10 401 23 1
  let B12 := b_arr B11 401 25 29
  let B13 := b_arr B12 401 26 5
  let B14 := b_arr B13 401 27 6
  let B15 := b_arr B14 401 28 256
  let B16 := b_wi B15 c1 8 307
  let B17 := b_wi B16 c1 3 (-1)
  let B18 := b_wi B17 c1 125 10
  let B19 := b_wi B18 c1 112 (-1)
  let B20 := b_wi B19 c1 113 (-1)
  let B21 := b_wi B20 c1 114 (-1)
  let B22 := b_wi B21 c1 115 (-1)
  let B23 := b_wi B22 c1 116 (-1)
  B23
theorem ci_X12 {w : go_Wd} {B : BB} {μ μ1 : PM} (hW : BW B) (hlen : B.1.length = 402) (h0 : B.1[401]? = some (12, 29)) (hfin : bm (bX12 B) = go_mk 376 μ) (hcp : fX12_copy μ 402 403 = some μ1) : Ct w 1 12 7733 mtX12_init [.ref 401] (bm B) (fun r' M' => r' = none ∧ M' = go_mk 376 μ1) := by
  have hcl := lt_sh h0
  refine go_entry rfl (by decide) (Nat.le_of_ble_eq_true rfl) ?_
  show Go w 1 12 7733 mtX12_init 0 [(0, .ref 401)] [] (bm B) (go_Z w _)
  refine go_aload_n dX12_init_0 0 rfl ?_
  refine go_objInit dX12_init_1 oo_X12_1 (Nat.le_of_ble_eq_true rfl) (Nat.le_of_ble_eq_true rfl) ?_
  refine go_aload_n dX12_init_4 0 rfl ?_
  refine go_sipush (v := 1792) dX12_init_5 (by decide) ?_
  refine bb_na (bc := 11) (bs := 5941) (n := 1792) dX12_init_8 dX12_init_10 ff_X12_7 rfl rfl (by decide) (by decide) (by omega) (go_Z_up w _) hW (by omega) h0 (lvk_r (lt_sh h0) (lvk_nil _)) ?_
  obtain ⟨B1, e1, W1, m1, K1, R1, v1, s1⟩ := st_arr (c := 401) (j := 0) (n := 1792) hW (lt_sh h0)
  rw [← e1]
  have l1 : B1.1.length = B.1.length + 1 := by omega
  have h1_401 := K1 _ _ h0
  obtain ⟨c1, g1⟩ : ∃ x, x = B.1.length := ⟨_, rfl⟩
  rw [← g1] at s1 v1
  have q1 : c1 = B.1.length := g1
  show Go w 1 11 5941 mtX12_init 13 [(0, .ref 401)] [] (bm B1) (go_Z w _)
  refine go_aload_n dX12_init_13 0 rfl ?_
  refine go_sipush (v := 1792) dX12_init_14 (by decide) ?_
  refine bb_na (bc := 10) (bs := 4149) (n := 1792) dX12_init_17 dX12_init_19 ff_X12_13 rfl rfl (by decide) (by decide) (by omega) (go_Z_up w _) W1 (by omega) h1_401 (lvk_r (lt_sh h1_401) (lvk_nil _)) ?_
  obtain ⟨B2, e2, W2, m2, K2, R2, v2, s2⟩ := st_arr (c := 401) (j := 1) (n := 1792) W1 (lt_sh h1_401)
  rw [← e2]
  have l2 : B2.1.length = B.1.length + 2 := by omega
  have h2_401 := K2 _ _ h1_401
  have h2_c1 := K2 _ _ s1
  have r2_401_0 := (R2 401 0 (by omega)).trans v1
  show Go w 1 10 4149 mtX12_init 22 [(0, .ref 401)] [] (bm B2) (go_Z w _)
  refine go_aload_n dX12_init_22 0 rfl ?_
  refine go_sipush (v := 2724) dX12_init_23 (by decide) ?_
  refine bb_na (bc := 9) (bs := 1425) (n := 2724) dX12_init_26 dX12_init_28 ff_X12_16 rfl rfl (by decide) (by decide) (by omega) (go_Z_up w _) W2 (by omega) h2_401 (lvk_r (lt_sh h2_401) (lvk_nil _)) ?_
  obtain ⟨B3, e3, W3, m3, K3, R3, v3, s3⟩ := st_arr (c := 401) (j := 2) (n := 2724) W2 (lt_sh h2_401)
  rw [← e3]
  have l3 : B3.1.length = B.1.length + 3 := by omega
  have h3_401 := K3 _ _ h2_401
  have h3_c1 := K3 _ _ h2_c1
  have r3_401_0 := (R3 401 0 (by omega)).trans r2_401_0
  show Go w 1 9 1425 mtX12_init 31 [(0, .ref 401)] [] (bm B3) (go_Z w _)
  refine go_aload_n dX12_init_31 0 rfl ?_
  refine go_sipush (v := 300) dX12_init_32 (by decide) ?_
  refine bb_na (bc := 8) (bs := 1125) (n := 300) dX12_init_35 dX12_init_37 ff_X12_19 rfl rfl (by decide) (by decide) (by omega) (go_Z_up w _) W3 (by omega) h3_401 (lvk_r (lt_sh h3_401) (lvk_nil _)) ?_
  obtain ⟨B4, e4, W4, m4, K4, R4, v4, s4⟩ := st_arr (c := 401) (j := 3) (n := 300) W3 (lt_sh h3_401)
  rw [← e4]
  have l4 : B4.1.length = B.1.length + 4 := by omega
  have h4_401 := K4 _ _ h3_401
  have h4_c1 := K4 _ _ h3_c1
  have r4_401_0 := (R4 401 0 (by omega)).trans r3_401_0
  show Go w 1 8 1125 mtX12_init 40 [(0, .ref 401)] [] (bm B4) (go_Z w _)
  refine go_aload_n dX12_init_40 0 rfl ?_
  refine go_iconst (v := (-1)) dX12_init_41 (by decide) ?_
  refine bb_putI dX12_init_42 ff_X12_22 (Or.inl rfl) W4 h4_401 ?_
  obtain ⟨B5, e5, W5, m5, K5, R5⟩ := st_wi (c := 401) (j := 5) (v := (-1)) W4
  rw [← e5]
  have l5 : B5.1.length = B.1.length + 4 := by omega
  have h5_401 := K5 _ _ h4_401
  have h5_c1 := K5 _ _ h4_c1
  have r5_401_0 := (R5 401 0).trans r4_401_0
  show Go w 1 8 1125 mtX12_init 45 [(0, .ref 401)] [] (bm B5) (go_Z w _)
  refine go_aload_n dX12_init_45 0 rfl ?_
  refine go_iconst (v := (-1)) dX12_init_46 (by decide) ?_
  refine bb_putI dX12_init_47 ff_X12_26 (Or.inl rfl) W5 h5_401 ?_
  obtain ⟨B6, e6, W6, m6, K6, R6⟩ := st_wi (c := 401) (j := 6) (v := (-1)) W5
  rw [← e6]
  have l6 : B6.1.length = B.1.length + 4 := by omega
  have h6_401 := K6 _ _ h5_401
  have h6_c1 := K6 _ _ h5_c1
  have r6_401_0 := (R6 401 0).trans r5_401_0
  show Go w 1 8 1125 mtX12_init 50 [(0, .ref 401)] [] (bm B6) (go_Z w _)
  refine go_aload_n dX12_init_50 0 rfl ?_
  refine go_sipush (v := 160) dX12_init_51 (by decide) ?_
  refine bb_na (bc := 7) (bs := 965) (n := 160) dX12_init_54 dX12_init_56 ff_X12_29 rfl rfl (by decide) (by decide) (by omega) (go_Z_up w _) W6 (by omega) h6_401 (lvk_r (lt_sh h6_401) (lvk_nil _)) ?_
  obtain ⟨B7, e7, W7, m7, K7, R7, v7, s7⟩ := st_arr (c := 401) (j := 15) (n := 160) W6 (lt_sh h6_401)
  rw [← e7]
  have l7 : B7.1.length = B.1.length + 5 := by omega
  have h7_401 := K7 _ _ h6_401
  have h7_c1 := K7 _ _ h6_c1
  have r7_401_0 := (R7 401 0 (by omega)).trans r6_401_0
  show Go w 1 7 965 mtX12_init 59 [(0, .ref 401)] [] (bm B7) (go_Z w _)
  refine go_aload_n dX12_init_59 0 rfl ?_
  refine go_bipush (v := 9) dX12_init_60 (by decide) ?_
  refine bb_na (bc := 6) (bs := 956) (n := 9) dX12_init_62 dX12_init_64 ff_X12_32 rfl rfl (by decide) (by decide) (by omega) (go_Z_up w _) W7 (by omega) h7_401 (lvk_r (lt_sh h7_401) (lvk_nil _)) ?_
  obtain ⟨B8, e8, W8, m8, K8, R8, v8, s8⟩ := st_arr (c := 401) (j := 20) (n := 9) W7 (lt_sh h7_401)
  rw [← e8]
  have l8 : B8.1.length = B.1.length + 6 := by omega
  have h8_401 := K8 _ _ h7_401
  have h8_c1 := K8 _ _ h7_c1
  have r8_401_0 := (R8 401 0 (by omega)).trans r7_401_0
  show Go w 1 6 956 mtX12_init 67 [(0, .ref 401)] [] (bm B8) (go_Z w _)
  refine go_aload_n dX12_init_67 0 rfl ?_
  refine go_sipush (v := 330) dX12_init_68 (by decide) ?_
  refine bb_nl (bc := 5) (bs := 626) (n := 330) dX12_init_71 dX12_init_73 ff_X12_35 rfl rfl (by decide) (by decide) (by omega) (go_Z_up w _) W8 (by omega) h8_401 (lvk_r (lt_sh h8_401) (lvk_nil _)) ?_
  obtain ⟨B9, e9, W9, m9, K9, R9, v9, s9⟩ := st_arl (c := 401) (j := 21) (n := 330) W8 (lt_sh h8_401)
  rw [← e9]
  have l9 : B9.1.length = B.1.length + 7 := by omega
  have h9_401 := K9 _ _ h8_401
  have h9_c1 := K9 _ _ h8_c1
  have r9_401_0 := (R9 401 0 (by omega)).trans r8_401_0
  show Go w 1 5 626 mtX12_init 76 [(0, .ref 401)] [] (bm B9) (go_Z w _)
  refine go_aload_n dX12_init_76 0 rfl ?_
  refine go_sipush (v := 330) dX12_init_77 (by decide) ?_
  refine bb_nz (bc := 4) (bs := 296) (n := 330) dX12_init_80 dX12_init_82 ff_X12_39 rfl rfl (by decide) (by decide) (by omega) (go_Z_up w _) W9 (by omega) h9_401 (lvk_r (lt_sh h9_401) (lvk_nil _)) ?_
  obtain ⟨B10, e10, W10, m10, K10, R10, v10, s10⟩ := st_arz (c := 401) (j := 22) (n := 330) W9 (lt_sh h9_401)
  rw [← e10]
  have l10 : B10.1.length = B.1.length + 8 := by omega
  have h10_401 := K10 _ _ h9_401
  have h10_c1 := K10 _ _ h9_c1
  have r10_401_0 := (R10 401 0 (by omega)).trans r9_401_0
  show Go w 1 4 296 mtX12_init 85 [(0, .ref 401)] [] (bm B10) (go_Z w _)
  refine go_aload_n dX12_init_85 0 rfl ?_
  refine go_iconst (v := 1) dX12_init_86 (by decide) ?_
  refine bb_putI dX12_init_87 ff_X12_43 (Or.inr ⟨rfl, by decide⟩) W10 h10_401 ?_
  obtain ⟨B11, e11, W11, m11, K11, R11⟩ := st_wi (c := 401) (j := 23) (v := 1) W10
  rw [← e11]
  have l11 : B11.1.length = B.1.length + 8 := by omega
  have h11_401 := K11 _ _ h10_401
  have h11_c1 := K11 _ _ h10_c1
  have r11_401_0 := (R11 401 0).trans r10_401_0
  show Go w 1 4 296 mtX12_init 90 [(0, .ref 401)] [] (bm B11) (go_Z w _)
  refine go_aload_n dX12_init_90 0 rfl ?_
  refine go_bipush (v := 29) dX12_init_91 (by decide) ?_
  refine bb_na (bc := 3) (bs := 267) (n := 29) dX12_init_93 dX12_init_95 ff_X12_47 rfl rfl (by decide) (by decide) (by omega) (go_Z_up w _) W11 (by omega) h11_401 (lvk_r (lt_sh h11_401) (lvk_nil _)) ?_
  obtain ⟨B12, e12, W12, m12, K12, R12, v12, s12⟩ := st_arr (c := 401) (j := 25) (n := 29) W11 (lt_sh h11_401)
  rw [← e12]
  have l12 : B12.1.length = B.1.length + 9 := by omega
  have h12_401 := K12 _ _ h11_401
  have h12_c1 := K12 _ _ h11_c1
  have r12_401_0 := (R12 401 0 (by omega)).trans r11_401_0
  show Go w 1 3 267 mtX12_init 98 [(0, .ref 401)] [] (bm B12) (go_Z w _)
  refine go_aload_n dX12_init_98 0 rfl ?_
  refine go_iconst (v := 5) dX12_init_99 (by decide) ?_
  refine bb_na (bc := 2) (bs := 262) (n := 5) dX12_init_100 dX12_init_102 ff_X12_50 rfl rfl (by decide) (by decide) (by omega) (go_Z_up w _) W12 (by omega) h12_401 (lvk_r (lt_sh h12_401) (lvk_nil _)) ?_
  obtain ⟨B13, e13, W13, m13, K13, R13, v13, s13⟩ := st_arr (c := 401) (j := 26) (n := 5) W12 (lt_sh h12_401)
  rw [← e13]
  have l13 : B13.1.length = B.1.length + 10 := by omega
  have h13_401 := K13 _ _ h12_401
  have h13_c1 := K13 _ _ h12_c1
  have r13_401_0 := (R13 401 0 (by omega)).trans r12_401_0
  show Go w 1 2 262 mtX12_init 105 [(0, .ref 401)] [] (bm B13) (go_Z w _)
  refine go_aload_n dX12_init_105 0 rfl ?_
  refine go_bipush (v := 6) dX12_init_106 (by decide) ?_
  refine bb_na (bc := 1) (bs := 256) (n := 6) dX12_init_108 dX12_init_110 ff_X12_53 rfl rfl (by decide) (by decide) (by omega) (go_Z_up w _) W13 (by omega) h13_401 (lvk_r (lt_sh h13_401) (lvk_nil _)) ?_
  obtain ⟨B14, e14, W14, m14, K14, R14, v14, s14⟩ := st_arr (c := 401) (j := 27) (n := 6) W13 (lt_sh h13_401)
  rw [← e14]
  have l14 : B14.1.length = B.1.length + 11 := by omega
  have h14_401 := K14 _ _ h13_401
  have h14_c1 := K14 _ _ h13_c1
  have r14_401_0 := (R14 401 0 (by omega)).trans r13_401_0
  show Go w 1 1 256 mtX12_init 113 [(0, .ref 401)] [] (bm B14) (go_Z w _)
  refine go_aload_n dX12_init_113 0 rfl ?_
  refine go_sipush (v := 256) dX12_init_114 (by decide) ?_
  refine bb_na (bc := 0) (bs := 0) (n := 256) dX12_init_117 dX12_init_119 ff_X12_56 rfl rfl (by decide) (by decide) (by omega) (go_Z_up w _) W14 (by omega) h14_401 (lvk_r (lt_sh h14_401) (lvk_nil _)) ?_
  obtain ⟨B15, e15, W15, m15, K15, R15, v15, s15⟩ := st_arr (c := 401) (j := 28) (n := 256) W14 (lt_sh h14_401)
  rw [← e15]
  have l15 : B15.1.length = B.1.length + 12 := by omega
  have h15_401 := K15 _ _ h14_401
  have h15_c1 := K15 _ _ h14_c1
  have r15_401_0 := (R15 401 0 (by omega)).trans r14_401_0
  show Go w 1 0 0 mtX12_init 122 [(0, .ref 401)] [] (bm B15) (go_Z w _)
  refine go_aload_n dX12_init_122 0 rfl ?_
  refine go_getR dX12_init_123 ff_X12_7 (Or.inr ⟨_, rfl⟩) (show B15.1[401]? = some (12, 29) from h15_401) (show brf B15 401 0 = some c1 from r15_401_0) ?_
  refine go_bipush (v := 8) dX12_init_126 (by decide) ?_
  refine go_sipush (v := 307) dX12_init_128 (by decide) ?_
  refine bb_ist (j := 8) dX12_init_131 (by decide) W15 h15_c1 (by unfold vp_in; decide) ?_
  obtain ⟨B16, e16, W16, m16, K16, R16⟩ := st_wi (c := c1) (j := 8) (v := 307) W15
  rw [← e16]
  have l16 : B16.1.length = B.1.length + 12 := by omega
  have h16_401 := K16 _ _ h15_401
  have h16_c1 := K16 _ _ h15_c1
  have r16_401_0 := (R16 401 0).trans r15_401_0
  show Go w 1 0 0 mtX12_init 132 [(0, .ref 401)] [] (bm B16) (go_Z w _)
  refine go_aload_n dX12_init_132 0 rfl ?_
  refine go_getR dX12_init_133 ff_X12_7 (Or.inr ⟨_, rfl⟩) (show B16.1[401]? = some (12, 29) from h16_401) (show brf B16 401 0 = some c1 from r16_401_0) ?_
  refine go_iconst (v := 3) dX12_init_136 (by decide) ?_
  refine go_iconst (v := (-1)) dX12_init_137 (by decide) ?_
  refine bb_ist (j := 3) dX12_init_138 (by decide) W16 h16_c1 (by unfold vp_in; decide) ?_
  obtain ⟨B17, e17, W17, m17, K17, R17⟩ := st_wi (c := c1) (j := 3) (v := (-1)) W16
  rw [← e17]
  have l17 : B17.1.length = B.1.length + 12 := by omega
  have h17_401 := K17 _ _ h16_401
  have h17_c1 := K17 _ _ h16_c1
  have r17_401_0 := (R17 401 0).trans r16_401_0
  show Go w 1 0 0 mtX12_init 139 [(0, .ref 401)] [] (bm B17) (go_Z w _)
  refine go_aload_n dX12_init_139 0 rfl ?_
  refine go_getR dX12_init_140 ff_X12_7 (Or.inr ⟨_, rfl⟩) (show B17.1[401]? = some (12, 29) from h17_401) (show brf B17 401 0 = some c1 from r17_401_0) ?_
  refine go_bipush (v := 125) dX12_init_143 (by decide) ?_
  refine go_bipush (v := 10) dX12_init_145 (by decide) ?_
  refine bb_ist (j := 125) dX12_init_147 (by decide) W17 h17_c1 (by unfold vp_in; decide) ?_
  obtain ⟨B18, e18, W18, m18, K18, R18⟩ := st_wi (c := c1) (j := 125) (v := 10) W17
  rw [← e18]
  have l18 : B18.1.length = B.1.length + 12 := by omega
  have h18_401 := K18 _ _ h17_401
  have h18_c1 := K18 _ _ h17_c1
  have r18_401_0 := (R18 401 0).trans r17_401_0
  show Go w 1 0 0 mtX12_init 148 [(0, .ref 401)] [] (bm B18) (go_Z w _)
  refine go_iconst (v := 0) dX12_init_148 (by decide) ?_
  refine go_istore_n dX12_init_149 (by decide) rfl ?_
  show Go w 1 0 0 mtX12_init 150 [(1, .int 0), (0, .ref 401)] [] (bm B18) (go_Z w _)
  refine go_iload_n dX12_init_150 0 rfl ?_
  refine go_iconst (v := 5) dX12_init_151 (by decide) ?_
  refine go_icmp_ge 171 dX12_init_152 (by decide) (fun hc => absurd hc (by decide)) (fun _ => ?_)
  refine go_aload_n dX12_init_155 1 rfl ?_
  refine go_getR dX12_init_156 ff_X12_7 (Or.inr ⟨_, rfl⟩) (show B18.1[401]? = some (12, 29) from h18_401) (show brf B18 401 0 = some c1 from r18_401_0) ?_
  refine go_bipush (v := 112) dX12_init_159 (by decide) ?_
  refine go_iload_n dX12_init_161 0 rfl ?_
  refine go_iadd dX12_init_162 ?_
  refine go_top (x := 112) (by decide) ?_
  refine go_iconst (v := (-1)) dX12_init_163 (by decide) ?_
  refine bb_ist (j := 112) dX12_init_164 (by decide) W18 h18_c1 (by unfold vp_in; decide) ?_
  obtain ⟨B19, e19, W19, m19, K19, R19⟩ := st_wi (c := c1) (j := 112) (v := (-1)) W18
  rw [← e19]
  have l19 : B19.1.length = B.1.length + 12 := by omega
  have h19_401 := K19 _ _ h18_401
  have h19_c1 := K19 _ _ h18_c1
  have r19_401_0 := (R19 401 0).trans r18_401_0
  show Go w 1 0 0 mtX12_init 165 [(1, .int 0), (0, .ref 401)] [] (bm B19) (go_Z w _)
  refine go_iinc (v := 1) dX12_init_165 0 rfl (by decide) (by decide) rfl ?_
  show Go w 1 0 0 mtX12_init 168 [(1, .int 1), (0, .ref 401)] [] (bm B19) (go_Z w _)
  refine go_goto 150 dX12_init_168 (by decide) ?_
  refine go_iload_n dX12_init_150 0 rfl ?_
  refine go_iconst (v := 5) dX12_init_151 (by decide) ?_
  refine go_icmp_ge 171 dX12_init_152 (by decide) (fun hc => absurd hc (by decide)) (fun _ => ?_)
  refine go_aload_n dX12_init_155 1 rfl ?_
  refine go_getR dX12_init_156 ff_X12_7 (Or.inr ⟨_, rfl⟩) (show B19.1[401]? = some (12, 29) from h19_401) (show brf B19 401 0 = some c1 from r19_401_0) ?_
  refine go_bipush (v := 112) dX12_init_159 (by decide) ?_
  refine go_iload_n dX12_init_161 0 rfl ?_
  refine go_iadd dX12_init_162 ?_
  refine go_top (x := 113) (by decide) ?_
  refine go_iconst (v := (-1)) dX12_init_163 (by decide) ?_
  refine bb_ist (j := 113) dX12_init_164 (by decide) W19 h19_c1 (by unfold vp_in; decide) ?_
  obtain ⟨B20, e20, W20, m20, K20, R20⟩ := st_wi (c := c1) (j := 113) (v := (-1)) W19
  rw [← e20]
  have l20 : B20.1.length = B.1.length + 12 := by omega
  have h20_401 := K20 _ _ h19_401
  have h20_c1 := K20 _ _ h19_c1
  have r20_401_0 := (R20 401 0).trans r19_401_0
  show Go w 1 0 0 mtX12_init 165 [(1, .int 1), (0, .ref 401)] [] (bm B20) (go_Z w _)
  refine go_iinc (v := 2) dX12_init_165 0 rfl (by decide) (by decide) rfl ?_
  show Go w 1 0 0 mtX12_init 168 [(1, .int 2), (0, .ref 401)] [] (bm B20) (go_Z w _)
  refine go_goto 150 dX12_init_168 (by decide) ?_
  refine go_iload_n dX12_init_150 0 rfl ?_
  refine go_iconst (v := 5) dX12_init_151 (by decide) ?_
  refine go_icmp_ge 171 dX12_init_152 (by decide) (fun hc => absurd hc (by decide)) (fun _ => ?_)
  refine go_aload_n dX12_init_155 1 rfl ?_
  refine go_getR dX12_init_156 ff_X12_7 (Or.inr ⟨_, rfl⟩) (show B20.1[401]? = some (12, 29) from h20_401) (show brf B20 401 0 = some c1 from r20_401_0) ?_
  refine go_bipush (v := 112) dX12_init_159 (by decide) ?_
  refine go_iload_n dX12_init_161 0 rfl ?_
  refine go_iadd dX12_init_162 ?_
  refine go_top (x := 114) (by decide) ?_
  refine go_iconst (v := (-1)) dX12_init_163 (by decide) ?_
  refine bb_ist (j := 114) dX12_init_164 (by decide) W20 h20_c1 (by unfold vp_in; decide) ?_
  obtain ⟨B21, e21, W21, m21, K21, R21⟩ := st_wi (c := c1) (j := 114) (v := (-1)) W20
  rw [← e21]
  have l21 : B21.1.length = B.1.length + 12 := by omega
  have h21_401 := K21 _ _ h20_401
  have h21_c1 := K21 _ _ h20_c1
  have r21_401_0 := (R21 401 0).trans r20_401_0
  show Go w 1 0 0 mtX12_init 165 [(1, .int 2), (0, .ref 401)] [] (bm B21) (go_Z w _)
  refine go_iinc (v := 3) dX12_init_165 0 rfl (by decide) (by decide) rfl ?_
  show Go w 1 0 0 mtX12_init 168 [(1, .int 3), (0, .ref 401)] [] (bm B21) (go_Z w _)
  refine go_goto 150 dX12_init_168 (by decide) ?_
  refine go_iload_n dX12_init_150 0 rfl ?_
  refine go_iconst (v := 5) dX12_init_151 (by decide) ?_
  refine go_icmp_ge 171 dX12_init_152 (by decide) (fun hc => absurd hc (by decide)) (fun _ => ?_)
  refine go_aload_n dX12_init_155 1 rfl ?_
  refine go_getR dX12_init_156 ff_X12_7 (Or.inr ⟨_, rfl⟩) (show B21.1[401]? = some (12, 29) from h21_401) (show brf B21 401 0 = some c1 from r21_401_0) ?_
  refine go_bipush (v := 112) dX12_init_159 (by decide) ?_
  refine go_iload_n dX12_init_161 0 rfl ?_
  refine go_iadd dX12_init_162 ?_
  refine go_top (x := 115) (by decide) ?_
  refine go_iconst (v := (-1)) dX12_init_163 (by decide) ?_
  refine bb_ist (j := 115) dX12_init_164 (by decide) W21 h21_c1 (by unfold vp_in; decide) ?_
  obtain ⟨B22, e22, W22, m22, K22, R22⟩ := st_wi (c := c1) (j := 115) (v := (-1)) W21
  rw [← e22]
  have l22 : B22.1.length = B.1.length + 12 := by omega
  have h22_401 := K22 _ _ h21_401
  have h22_c1 := K22 _ _ h21_c1
  have r22_401_0 := (R22 401 0).trans r21_401_0
  show Go w 1 0 0 mtX12_init 165 [(1, .int 3), (0, .ref 401)] [] (bm B22) (go_Z w _)
  refine go_iinc (v := 4) dX12_init_165 0 rfl (by decide) (by decide) rfl ?_
  show Go w 1 0 0 mtX12_init 168 [(1, .int 4), (0, .ref 401)] [] (bm B22) (go_Z w _)
  refine go_goto 150 dX12_init_168 (by decide) ?_
  refine go_iload_n dX12_init_150 0 rfl ?_
  refine go_iconst (v := 5) dX12_init_151 (by decide) ?_
  refine go_icmp_ge 171 dX12_init_152 (by decide) (fun hc => absurd hc (by decide)) (fun _ => ?_)
  refine go_aload_n dX12_init_155 1 rfl ?_
  refine go_getR dX12_init_156 ff_X12_7 (Or.inr ⟨_, rfl⟩) (show B22.1[401]? = some (12, 29) from h22_401) (show brf B22 401 0 = some c1 from r22_401_0) ?_
  refine go_bipush (v := 112) dX12_init_159 (by decide) ?_
  refine go_iload_n dX12_init_161 0 rfl ?_
  refine go_iadd dX12_init_162 ?_
  refine go_top (x := 116) (by decide) ?_
  refine go_iconst (v := (-1)) dX12_init_163 (by decide) ?_
  refine bb_ist (j := 116) dX12_init_164 (by decide) W22 h22_c1 (by unfold vp_in; decide) ?_
  obtain ⟨B23, e23, W23, m23, K23, R23⟩ := st_wi (c := c1) (j := 116) (v := (-1)) W22
  rw [← e23]
  have l23 : B23.1.length = B.1.length + 12 := by omega
  have h23_401 := K23 _ _ h22_401
  have h23_c1 := K23 _ _ h22_c1
  have r23_401_0 := (R23 401 0).trans r22_401_0
  show Go w 1 0 0 mtX12_init 165 [(1, .int 4), (0, .ref 401)] [] (bm B23) (go_Z w _)
  refine go_iinc (v := 5) dX12_init_165 0 rfl (by decide) (by decide) rfl ?_
  show Go w 1 0 0 mtX12_init 168 [(1, .int 5), (0, .ref 401)] [] (bm B23) (go_Z w _)
  refine go_goto 150 dX12_init_168 (by decide) ?_
  refine go_iload_n dX12_init_150 0 rfl ?_
  refine go_iconst (v := 5) dX12_init_151 (by decide) ?_
  refine go_icmp_ge 171 dX12_init_152 (by decide) (fun _ => ?_) (fun hc => absurd (by decide) hc)
  have eX : B23 = bX12 B := by rw [e23, e22, e21, e20, e19, e18, e17, e16, e15, e14, e13, e12, e11, e10, e9, e8, e7, e6, e5, e4, e3, e2, e1, g1]; rfl
  rw [eX, hfin]
  show Go w 1 0 0 mtX12_init 171 [(1, .int 5), (0, .ref 401)] [] (go_mk 376 μ) (go_Z w _)
  refine go_aload_n dX12_init_171 1 rfl ?_
  refine pp_getR dX12_init_172 ff_X12_7 (Or.inr ⟨_, rfl⟩) sh_401 rf_401_0 ?_
  refine go_aload_n dX12_init_175 1 rfl ?_
  refine pp_getR dX12_init_176 ff_X12_13 (Or.inr ⟨_, rfl⟩) sh_401 rf_401_1 ?_
  refine pp_callS (as := [.ref 402, .ref 403]) (st := []) (rv := none) (μ1 := μ1) (st1 := []) dX12_init_179 ll_X12_59 (ctX12_copy sh_402 sh_403 hcp) rfl (Nat.le_of_ble_eq_true rfl) (Nat.le_of_ble_eq_true rfl) (go_Z_up w _) rfl rfl ?_
  exact go_vret dX12_init_182 rfl ⟨rfl, rfl⟩
