/-! ===== constructors ===== -/
def bX10 (B : BB) (c : Nat) : BB :=
  let B1 := b_arr B c 0 6
  let B2 := b_arr B1 c 1 6
  let B3 := b_arr B2 c 2 5
  let B4 := b_arr B3 c 3 30
  let B5 := b_wi B4 c 10 307
  B5
theorem stX10 {B : BB} {c : Nat} (hW : BW B) (hl : B.1.length < 800000) (h0 : B.1[c]? = some (10, 11)) : ∃ X, X = bX10 B c ∧ BW X ∧ X.1.length = B.1.length + 4 ∧ (∀ (c' : Nat) (k' : Nat × Nat), B.1[c']? = some k' → X.1[c']? = some k') ∧ (∀ c' j', c' < B.1.length → c' ≠ c → brf X c' j' = brf B c' j') := by
  have hcl := lt_sh h0
  obtain ⟨B1, e1, W1, m1, K1, R1, v1, s1⟩ := st_arr (c := c) (j := 0) (n := 6) hW (lt_sh h0)
  have l1 : B1.1.length = B.1.length + 1 := by omega
  have h1_c := K1 _ _ h0
  obtain ⟨B2, e2, W2, m2, K2, R2, v2, s2⟩ := st_arr (c := c) (j := 1) (n := 6) W1 (lt_sh h1_c)
  have l2 : B2.1.length = B.1.length + 2 := by omega
  have h2_c := K2 _ _ h1_c
  obtain ⟨B3, e3, W3, m3, K3, R3, v3, s3⟩ := st_arr (c := c) (j := 2) (n := 5) W2 (lt_sh h2_c)
  have l3 : B3.1.length = B.1.length + 3 := by omega
  have h3_c := K3 _ _ h2_c
  obtain ⟨B4, e4, W4, m4, K4, R4, v4, s4⟩ := st_arr (c := c) (j := 3) (n := 30) W3 (lt_sh h3_c)
  have l4 : B4.1.length = B.1.length + 4 := by omega
  have h4_c := K4 _ _ h3_c
  obtain ⟨B5, e5, W5, m5, K5, R5⟩ := st_wi (c := c) (j := 10) (v := 307) W4
  have l5 : B5.1.length = B.1.length + 4 := by omega
  have h5_c := K5 _ _ h4_c
  have eX : B5 = bX10 B c := by rw [e5, e4, e3, e2, e1]; rfl
  refine ⟨B5, eX, W5, l5, fun c' k' h' => (K5 _ _ (K4 _ _ (K3 _ _ (K2 _ _ (K1 _ _ h'))))), fun c' j' p1 p2 => ((R5 _ _).trans ((R4 _ _ (by omega)).trans ((R3 _ _ (by omega)).trans ((R2 _ _ (by omega)).trans (R1 _ _ (by omega))))))⟩
theorem ci_X10 {w : go_Wd} {B : BB} {c : Nat} (hW : BW B) (hl : B.1.length < 800000) (h0 : B.1[c]? = some (10, 11)) : Ct w 1 4 47 mtX10_init [.ref c] (bm B) (fun r' M' => r' = none ∧ M' = bm (bX10 B c)) := by
  have hcl := lt_sh h0
  refine go_entry rfl (by decide) (Nat.le_of_ble_eq_true rfl) ?_
  show Go w 1 4 47 mtX10_init 0 [(0, .ref c)] [] (bm B) (go_Z w _)
  refine go_aload_n dX10_init_0 0 rfl ?_
  refine go_objInit dX10_init_1 oo_X10_3 (Nat.le_of_ble_eq_true rfl) (Nat.le_of_ble_eq_true rfl) ?_
  refine go_aload_n dX10_init_4 0 rfl ?_
  refine go_bipush (v := 6) dX10_init_5 (by decide) ?_
  refine bb_na (bc := 3) (bs := 41) (n := 6) dX10_init_7 dX10_init_9 ff_X10_9 rfl rfl (by decide) (by decide) (by omega) (go_Z_up w _) hW (by omega) h0 (lvk_r (lt_sh h0) (lvk_nil _)) ?_
  obtain ⟨B1, e1, W1, m1, K1, R1, v1, s1⟩ := st_arr (c := c) (j := 0) (n := 6) hW (lt_sh h0)
  rw [← e1]
  have l1 : B1.1.length = B.1.length + 1 := by omega
  have h1_c := K1 _ _ h0
  refine go_aload_n dX10_init_12 0 rfl ?_
  refine go_bipush (v := 6) dX10_init_13 (by decide) ?_
  refine bb_na (bc := 2) (bs := 35) (n := 6) dX10_init_15 dX10_init_17 ff_X10_15 rfl rfl (by decide) (by decide) (by omega) (go_Z_up w _) W1 (by omega) h1_c (lvk_r (lt_sh h1_c) (lvk_nil _)) ?_
  obtain ⟨B2, e2, W2, m2, K2, R2, v2, s2⟩ := st_arr (c := c) (j := 1) (n := 6) W1 (lt_sh h1_c)
  rw [← e2]
  have l2 : B2.1.length = B.1.length + 2 := by omega
  have h2_c := K2 _ _ h1_c
  refine go_aload_n dX10_init_20 0 rfl ?_
  refine go_iconst (v := 5) dX10_init_21 (by decide) ?_
  refine bb_na (bc := 1) (bs := 30) (n := 5) dX10_init_22 dX10_init_24 ff_X10_18 rfl rfl (by decide) (by decide) (by omega) (go_Z_up w _) W2 (by omega) h2_c (lvk_r (lt_sh h2_c) (lvk_nil _)) ?_
  obtain ⟨B3, e3, W3, m3, K3, R3, v3, s3⟩ := st_arr (c := c) (j := 2) (n := 5) W2 (lt_sh h2_c)
  rw [← e3]
  have l3 : B3.1.length = B.1.length + 3 := by omega
  have h3_c := K3 _ _ h2_c
  refine go_aload_n dX10_init_27 0 rfl ?_
  refine go_bipush (v := 30) dX10_init_28 (by decide) ?_
  refine bb_na (bc := 0) (bs := 0) (n := 30) dX10_init_30 dX10_init_32 ff_X10_21 rfl rfl (by decide) (by decide) (by omega) (go_Z_up w _) W3 (by omega) h3_c (lvk_r (lt_sh h3_c) (lvk_nil _)) ?_
  obtain ⟨B4, e4, W4, m4, K4, R4, v4, s4⟩ := st_arr (c := c) (j := 3) (n := 30) W3 (lt_sh h3_c)
  rw [← e4]
  have l4 : B4.1.length = B.1.length + 4 := by omega
  have h4_c := K4 _ _ h3_c
  refine go_aload_n dX10_init_35 0 rfl ?_
  refine go_sipush (v := 307) dX10_init_36 (by decide) ?_
  refine bb_putI dX10_init_39 ff_X10_24 (Or.inl rfl) W4 h4_c ?_
  obtain ⟨B5, e5, W5, m5, K5, R5⟩ := st_wi (c := c) (j := 10) (v := 307) W4
  rw [← e5]
  have l5 : B5.1.length = B.1.length + 4 := by omega
  have h5_c := K5 _ _ h4_c
  exact go_vret dX10_init_42 rfl ⟨rfl, by rw [e5, e4, e3, e2, e1]; rfl⟩
def bX8 (B : BB) (c : Nat) : BB :=
  let B1 := b_arr B c 0 24
  let B2 := b_arr B1 c 1 24
  let B3 := b_arr B2 c 2 24
  let B4 := b_arr B3 c 3 3
  let B5 := b_arr B4 c 4 320
  let B6 := b_arr B5 c 5 320
  B6
theorem stX8 {B : BB} {c : Nat} (hW : BW B) (hl : B.1.length < 800000) (h0 : B.1[c]? = some (8, 8)) : ∃ X, X = bX8 B c ∧ BW X ∧ X.1.length = B.1.length + 6 ∧ (∀ (c' : Nat) (k' : Nat × Nat), B.1[c']? = some k' → X.1[c']? = some k') ∧ (∀ c' j', c' < B.1.length → c' ≠ c → brf X c' j' = brf B c' j') := by
  have hcl := lt_sh h0
  obtain ⟨B1, e1, W1, m1, K1, R1, v1, s1⟩ := st_arr (c := c) (j := 0) (n := 24) hW (lt_sh h0)
  have l1 : B1.1.length = B.1.length + 1 := by omega
  have h1_c := K1 _ _ h0
  obtain ⟨B2, e2, W2, m2, K2, R2, v2, s2⟩ := st_arr (c := c) (j := 1) (n := 24) W1 (lt_sh h1_c)
  have l2 : B2.1.length = B.1.length + 2 := by omega
  have h2_c := K2 _ _ h1_c
  obtain ⟨B3, e3, W3, m3, K3, R3, v3, s3⟩ := st_arr (c := c) (j := 2) (n := 24) W2 (lt_sh h2_c)
  have l3 : B3.1.length = B.1.length + 3 := by omega
  have h3_c := K3 _ _ h2_c
  obtain ⟨B4, e4, W4, m4, K4, R4, v4, s4⟩ := st_arr (c := c) (j := 3) (n := 3) W3 (lt_sh h3_c)
  have l4 : B4.1.length = B.1.length + 4 := by omega
  have h4_c := K4 _ _ h3_c
  obtain ⟨B5, e5, W5, m5, K5, R5, v5, s5⟩ := st_arr (c := c) (j := 4) (n := 320) W4 (lt_sh h4_c)
  have l5 : B5.1.length = B.1.length + 5 := by omega
  have h5_c := K5 _ _ h4_c
  obtain ⟨B6, e6, W6, m6, K6, R6, v6, s6⟩ := st_arr (c := c) (j := 5) (n := 320) W5 (lt_sh h5_c)
  have l6 : B6.1.length = B.1.length + 6 := by omega
  have h6_c := K6 _ _ h5_c
  have eX : B6 = bX8 B c := by rw [e6, e5, e4, e3, e2, e1]; rfl
  refine ⟨B6, eX, W6, l6, fun c' k' h' => (K6 _ _ (K5 _ _ (K4 _ _ (K3 _ _ (K2 _ _ (K1 _ _ h')))))), fun c' j' p1 p2 => ((R6 _ _ (by omega)).trans ((R5 _ _ (by omega)).trans ((R4 _ _ (by omega)).trans ((R3 _ _ (by omega)).trans ((R2 _ _ (by omega)).trans (R1 _ _ (by omega)))))))⟩
theorem ci_X8 {w : go_Wd} {B : BB} {c : Nat} (hW : BW B) (hl : B.1.length < 800000) (h0 : B.1[c]? = some (8, 8)) : Ct w 1 6 715 mtX8_init [.ref c] (bm B) (fun r' M' => r' = none ∧ M' = bm (bX8 B c)) := by
  have hcl := lt_sh h0
  refine go_entry rfl (by decide) (Nat.le_of_ble_eq_true rfl) ?_
  show Go w 1 6 715 mtX8_init 0 [(0, .ref c)] [] (bm B) (go_Z w _)
  refine go_aload_n dX8_init_0 0 rfl ?_
  refine go_objInit dX8_init_1 oo_X8_3 (Nat.le_of_ble_eq_true rfl) (Nat.le_of_ble_eq_true rfl) ?_
  refine go_aload_n dX8_init_4 0 rfl ?_
  refine go_bipush (v := 24) dX8_init_5 (by decide) ?_
  refine bb_na (bc := 5) (bs := 691) (n := 24) dX8_init_7 dX8_init_9 ff_X8_9 rfl rfl (by decide) (by decide) (by omega) (go_Z_up w _) hW (by omega) h0 (lvk_r (lt_sh h0) (lvk_nil _)) ?_
  obtain ⟨B1, e1, W1, m1, K1, R1, v1, s1⟩ := st_arr (c := c) (j := 0) (n := 24) hW (lt_sh h0)
  rw [← e1]
  have l1 : B1.1.length = B.1.length + 1 := by omega
  have h1_c := K1 _ _ h0
  refine go_aload_n dX8_init_12 0 rfl ?_
  refine go_bipush (v := 24) dX8_init_13 (by decide) ?_
  refine bb_na (bc := 4) (bs := 667) (n := 24) dX8_init_15 dX8_init_17 ff_X8_15 rfl rfl (by decide) (by decide) (by omega) (go_Z_up w _) W1 (by omega) h1_c (lvk_r (lt_sh h1_c) (lvk_nil _)) ?_
  obtain ⟨B2, e2, W2, m2, K2, R2, v2, s2⟩ := st_arr (c := c) (j := 1) (n := 24) W1 (lt_sh h1_c)
  rw [← e2]
  have l2 : B2.1.length = B.1.length + 2 := by omega
  have h2_c := K2 _ _ h1_c
  refine go_aload_n dX8_init_20 0 rfl ?_
  refine go_bipush (v := 24) dX8_init_21 (by decide) ?_
  refine bb_na (bc := 3) (bs := 643) (n := 24) dX8_init_23 dX8_init_25 ff_X8_18 rfl rfl (by decide) (by decide) (by omega) (go_Z_up w _) W2 (by omega) h2_c (lvk_r (lt_sh h2_c) (lvk_nil _)) ?_
  obtain ⟨B3, e3, W3, m3, K3, R3, v3, s3⟩ := st_arr (c := c) (j := 2) (n := 24) W2 (lt_sh h2_c)
  rw [← e3]
  have l3 : B3.1.length = B.1.length + 3 := by omega
  have h3_c := K3 _ _ h2_c
  refine go_aload_n dX8_init_28 0 rfl ?_
  refine go_iconst (v := 3) dX8_init_29 (by decide) ?_
  refine bb_na (bc := 2) (bs := 640) (n := 3) dX8_init_30 dX8_init_32 ff_X8_21 rfl rfl (by decide) (by decide) (by omega) (go_Z_up w _) W3 (by omega) h3_c (lvk_r (lt_sh h3_c) (lvk_nil _)) ?_
  obtain ⟨B4, e4, W4, m4, K4, R4, v4, s4⟩ := st_arr (c := c) (j := 3) (n := 3) W3 (lt_sh h3_c)
  rw [← e4]
  have l4 : B4.1.length = B.1.length + 4 := by omega
  have h4_c := K4 _ _ h3_c
  refine go_aload_n dX8_init_35 0 rfl ?_
  refine go_sipush (v := 320) dX8_init_36 (by decide) ?_
  refine bb_na (bc := 1) (bs := 320) (n := 320) dX8_init_39 dX8_init_41 ff_X8_24 rfl rfl (by decide) (by decide) (by omega) (go_Z_up w _) W4 (by omega) h4_c (lvk_r (lt_sh h4_c) (lvk_nil _)) ?_
  obtain ⟨B5, e5, W5, m5, K5, R5, v5, s5⟩ := st_arr (c := c) (j := 4) (n := 320) W4 (lt_sh h4_c)
  rw [← e5]
  have l5 : B5.1.length = B.1.length + 5 := by omega
  have h5_c := K5 _ _ h4_c
  refine go_aload_n dX8_init_44 0 rfl ?_
  refine go_sipush (v := 320) dX8_init_45 (by decide) ?_
  refine bb_na (bc := 0) (bs := 0) (n := 320) dX8_init_48 dX8_init_50 ff_X8_27 rfl rfl (by decide) (by decide) (by omega) (go_Z_up w _) W5 (by omega) h5_c (lvk_r (lt_sh h5_c) (lvk_nil _)) ?_
  obtain ⟨B6, e6, W6, m6, K6, R6, v6, s6⟩ := st_arr (c := c) (j := 5) (n := 320) W5 (lt_sh h5_c)
  rw [← e6]
  have l6 : B6.1.length = B.1.length + 6 := by omega
  have h6_c := K6 _ _ h5_c
  exact go_vret dX8_init_53 rfl ⟨rfl, by rw [e6, e5, e4, e3, e2, e1]; rfl⟩
def bX0 (B : BB) (c : Nat) (a : Nat) (e : Nat) : BB :=
  let B1 := b_wr B c 0 (some a)
  let B2 := b_wr B1 c 1 (some e)
  B2
theorem stX0 {B : BB} {c a e : Nat} (hW : BW B) (hl : B.1.length < 800000) (h0 : B.1[c]? = some (0, 2)) (ha : a < B.1.length) (he : e < B.1.length) : ∃ X, X = bX0 B c a e ∧ BW X ∧ X.1.length = B.1.length + 0 ∧ (∀ (c' : Nat) (k' : Nat × Nat), B.1[c']? = some k' → X.1[c']? = some k') ∧ (∀ c' j', c' < B.1.length → c' ≠ c → brf X c' j' = brf B c' j') := by
  have hcl := lt_sh h0
  obtain ⟨B1, e1, W1, m1, K1, R1, v1⟩ := st_wr (c := c) (j := 0) (q := a) hW (lt_sh h0) (by omega)
  have l1 : B1.1.length = B.1.length + 0 := by omega
  have h1_c := K1 _ _ h0
  obtain ⟨B2, e2, W2, m2, K2, R2, v2⟩ := st_wr (c := c) (j := 1) (q := e) W1 (lt_sh h1_c) (by omega)
  have l2 : B2.1.length = B.1.length + 0 := by omega
  have h2_c := K2 _ _ h1_c
  have eX : B2 = bX0 B c a e := by rw [e2, e1]; rfl
  refine ⟨B2, eX, W2, l2, fun c' k' h' => (K2 _ _ (K1 _ _ h')), fun c' j' p1 p2 => ((R2 _ _ (by omega)).trans (R1 _ _ (by omega)))⟩
theorem ci_X0 {w : go_Wd} {B : BB} {c a e : Nat} (hW : BW B) (hl : B.1.length < 800000) (h0 : B.1[c]? = some (0, 2)) (ha : a < B.1.length) (he : e < B.1.length) : Ct w 1 0 0 mtX0_init [.ref c, .ref a, .ref e] (bm B) (fun r' M' => r' = none ∧ M' = bm (bX0 B c a e)) := by
  have hcl := lt_sh h0
  refine go_entry rfl (by decide) (Nat.le_of_ble_eq_true rfl) ?_
  show Go w 1 0 0 mtX0_init 0 [(0, .ref c), (1, .ref a), (2, .ref e)] [] (bm B) (go_Z w _)
  refine go_aload_n dX0_init_0 0 rfl ?_
  refine go_objInit dX0_init_1 oo_X0_3 (Nat.le_of_ble_eq_true rfl) (Nat.le_of_ble_eq_true rfl) ?_
  refine go_aload_n dX0_init_4 0 rfl ?_
  refine go_aload_n dX0_init_5 1 rfl ?_
  refine bb_putR dX0_init_6 ff_X0_9 rfl rfl (Or.inl ⟨_, rfl⟩) hW h0 ?_
  obtain ⟨B1, e1, W1, m1, K1, R1, v1⟩ := st_wr (c := c) (j := 0) (q := a) hW (lt_sh h0) (by omega)
  rw [← e1]
  have l1 : B1.1.length = B.1.length + 0 := by omega
  have h1_c := K1 _ _ h0
  refine go_aload_n dX0_init_9 0 rfl ?_
  refine go_aload_n dX0_init_10 2 rfl ?_
  refine bb_putR dX0_init_11 ff_X0_15 rfl rfl (Or.inl ⟨_, rfl⟩) W1 h1_c ?_
  obtain ⟨B2, e2, W2, m2, K2, R2, v2⟩ := st_wr (c := c) (j := 1) (q := e) W1 (lt_sh h1_c) (by omega)
  rw [← e2]
  have l2 : B2.1.length = B.1.length + 0 := by omega
  have h2_c := K2 _ _ h1_c
  exact go_vret dX0_init_14 rfl ⟨rfl, by rw [e2, e1]; rfl⟩
def bX1 (B : BB) (c : Nat) (a : Nat) : BB :=
  let B1 := b_arr B c 1 64
  let B2 := b_arr B1 c 2 256
  let B3 := b_arr B2 c 3 4
  let B4 := b_wr B3 c 0 (some a)
  B4
theorem stX1 {B : BB} {c a : Nat} (hW : BW B) (hl : B.1.length < 800000) (h0 : B.1[c]? = some (1, 5)) (ha : a < B.1.length) : ∃ X, X = bX1 B c a ∧ BW X ∧ X.1.length = B.1.length + 3 ∧ (∀ (c' : Nat) (k' : Nat × Nat), B.1[c']? = some k' → X.1[c']? = some k') ∧ (∀ c' j', c' < B.1.length → c' ≠ c → brf X c' j' = brf B c' j') := by
  have hcl := lt_sh h0
  obtain ⟨B1, e1, W1, m1, K1, R1, v1, s1⟩ := st_arr (c := c) (j := 1) (n := 64) hW (lt_sh h0)
  have l1 : B1.1.length = B.1.length + 1 := by omega
  have h1_c := K1 _ _ h0
  obtain ⟨B2, e2, W2, m2, K2, R2, v2, s2⟩ := st_arr (c := c) (j := 2) (n := 256) W1 (lt_sh h1_c)
  have l2 : B2.1.length = B.1.length + 2 := by omega
  have h2_c := K2 _ _ h1_c
  obtain ⟨B3, e3, W3, m3, K3, R3, v3, s3⟩ := st_arr (c := c) (j := 3) (n := 4) W2 (lt_sh h2_c)
  have l3 : B3.1.length = B.1.length + 3 := by omega
  have h3_c := K3 _ _ h2_c
  obtain ⟨B4, e4, W4, m4, K4, R4, v4⟩ := st_wr (c := c) (j := 0) (q := a) W3 (lt_sh h3_c) (by omega)
  have l4 : B4.1.length = B.1.length + 3 := by omega
  have h4_c := K4 _ _ h3_c
  have eX : B4 = bX1 B c a := by rw [e4, e3, e2, e1]; rfl
  refine ⟨B4, eX, W4, l4, fun c' k' h' => (K4 _ _ (K3 _ _ (K2 _ _ (K1 _ _ h')))), fun c' j' p1 p2 => ((R4 _ _ (by omega)).trans ((R3 _ _ (by omega)).trans ((R2 _ _ (by omega)).trans (R1 _ _ (by omega)))))⟩
theorem ci_X1 {w : go_Wd} {B : BB} {c a : Nat} (hW : BW B) (hl : B.1.length < 800000) (h0 : B.1[c]? = some (1, 5)) (ha : a < B.1.length) : Ct w 1 3 324 mtX1_init [.ref c, .ref a] (bm B) (fun r' M' => r' = none ∧ M' = bm (bX1 B c a)) := by
  have hcl := lt_sh h0
  refine go_entry rfl (by decide) (Nat.le_of_ble_eq_true rfl) ?_
  show Go w 1 3 324 mtX1_init 0 [(0, .ref c), (1, .ref a)] [] (bm B) (go_Z w _)
  refine go_aload_n dX1_init_0 0 rfl ?_
  refine go_objInit dX1_init_1 oo_X1_3 (Nat.le_of_ble_eq_true rfl) (Nat.le_of_ble_eq_true rfl) ?_
  refine go_aload_n dX1_init_4 0 rfl ?_
  refine go_bipush (v := 64) dX1_init_5 (by decide) ?_
  refine bb_na (bc := 2) (bs := 260) (n := 64) dX1_init_7 dX1_init_9 ff_X1_9 rfl rfl (by decide) (by decide) (by omega) (go_Z_up w _) hW (by omega) h0 (lvk_r (lt_sh h0) (lvk_r (by omega) (lvk_nil _))) ?_
  obtain ⟨B1, e1, W1, m1, K1, R1, v1, s1⟩ := st_arr (c := c) (j := 1) (n := 64) hW (lt_sh h0)
  rw [← e1]
  have l1 : B1.1.length = B.1.length + 1 := by omega
  have h1_c := K1 _ _ h0
  refine go_aload_n dX1_init_12 0 rfl ?_
  refine go_sipush (v := 256) dX1_init_13 (by decide) ?_
  refine bb_na (bc := 1) (bs := 4) (n := 256) dX1_init_16 dX1_init_18 ff_X1_15 rfl rfl (by decide) (by decide) (by omega) (go_Z_up w _) W1 (by omega) h1_c (lvk_r (lt_sh h1_c) (lvk_r (by omega) (lvk_nil _))) ?_
  obtain ⟨B2, e2, W2, m2, K2, R2, v2, s2⟩ := st_arr (c := c) (j := 2) (n := 256) W1 (lt_sh h1_c)
  rw [← e2]
  have l2 : B2.1.length = B.1.length + 2 := by omega
  have h2_c := K2 _ _ h1_c
  refine go_aload_n dX1_init_21 0 rfl ?_
  refine go_iconst (v := 4) dX1_init_22 (by decide) ?_
  refine bb_na (bc := 0) (bs := 0) (n := 4) dX1_init_23 dX1_init_25 ff_X1_18 rfl rfl (by decide) (by decide) (by omega) (go_Z_up w _) W2 (by omega) h2_c (lvk_r (lt_sh h2_c) (lvk_r (by omega) (lvk_nil _))) ?_
  obtain ⟨B3, e3, W3, m3, K3, R3, v3, s3⟩ := st_arr (c := c) (j := 3) (n := 4) W2 (lt_sh h2_c)
  rw [← e3]
  have l3 : B3.1.length = B.1.length + 3 := by omega
  have h3_c := K3 _ _ h2_c
  refine go_aload_n dX1_init_28 0 rfl ?_
  refine go_aload_n dX1_init_29 1 rfl ?_
  refine bb_putR dX1_init_30 ff_X1_21 rfl rfl (Or.inl ⟨_, rfl⟩) W3 h3_c ?_
  obtain ⟨B4, e4, W4, m4, K4, R4, v4⟩ := st_wr (c := c) (j := 0) (q := a) W3 (lt_sh h3_c) (by omega)
  rw [← e4]
  have l4 : B4.1.length = B.1.length + 3 := by omega
  have h4_c := K4 _ _ h3_c
  exact go_vret dX1_init_33 rfl ⟨rfl, by rw [e4, e3, e2, e1]; rfl⟩
def bX2 (B : BB) (c : Nat) (a : Nat) : BB :=
  let B1 := b_arr B c 1 9
  let B2 := b_arr B1 c 2 96
  let B3 := b_wr B2 c 0 (some a)
  B3
theorem stX2 {B : BB} {c a : Nat} (hW : BW B) (hl : B.1.length < 800000) (h0 : B.1[c]? = some (2, 3)) (ha : a < B.1.length) : ∃ X, X = bX2 B c a ∧ BW X ∧ X.1.length = B.1.length + 2 ∧ (∀ (c' : Nat) (k' : Nat × Nat), B.1[c']? = some k' → X.1[c']? = some k') ∧ (∀ c' j', c' < B.1.length → c' ≠ c → brf X c' j' = brf B c' j') := by
  have hcl := lt_sh h0
  obtain ⟨B1, e1, W1, m1, K1, R1, v1, s1⟩ := st_arr (c := c) (j := 1) (n := 9) hW (lt_sh h0)
  have l1 : B1.1.length = B.1.length + 1 := by omega
  have h1_c := K1 _ _ h0
  obtain ⟨B2, e2, W2, m2, K2, R2, v2, s2⟩ := st_arr (c := c) (j := 2) (n := 96) W1 (lt_sh h1_c)
  have l2 : B2.1.length = B.1.length + 2 := by omega
  have h2_c := K2 _ _ h1_c
  obtain ⟨B3, e3, W3, m3, K3, R3, v3⟩ := st_wr (c := c) (j := 0) (q := a) W2 (lt_sh h2_c) (by omega)
  have l3 : B3.1.length = B.1.length + 2 := by omega
  have h3_c := K3 _ _ h2_c
  have eX : B3 = bX2 B c a := by rw [e3, e2, e1]; rfl
  refine ⟨B3, eX, W3, l3, fun c' k' h' => (K3 _ _ (K2 _ _ (K1 _ _ h'))), fun c' j' p1 p2 => ((R3 _ _ (by omega)).trans ((R2 _ _ (by omega)).trans (R1 _ _ (by omega))))⟩
theorem ci_X2 {w : go_Wd} {B : BB} {c a : Nat} (hW : BW B) (hl : B.1.length < 800000) (h0 : B.1[c]? = some (2, 3)) (ha : a < B.1.length) : Ct w 1 2 105 mtX2_init [.ref c, .ref a] (bm B) (fun r' M' => r' = none ∧ M' = bm (bX2 B c a)) := by
  have hcl := lt_sh h0
  refine go_entry rfl (by decide) (Nat.le_of_ble_eq_true rfl) ?_
  show Go w 1 2 105 mtX2_init 0 [(0, .ref c), (1, .ref a)] [] (bm B) (go_Z w _)
  refine go_aload_n dX2_init_0 0 rfl ?_
  refine go_objInit dX2_init_1 oo_X2_3 (Nat.le_of_ble_eq_true rfl) (Nat.le_of_ble_eq_true rfl) ?_
  refine go_aload_n dX2_init_4 0 rfl ?_
  refine go_bipush (v := 9) dX2_init_5 (by decide) ?_
  refine bb_na (bc := 1) (bs := 96) (n := 9) dX2_init_7 dX2_init_9 ff_X2_9 rfl rfl (by decide) (by decide) (by omega) (go_Z_up w _) hW (by omega) h0 (lvk_r (lt_sh h0) (lvk_r (by omega) (lvk_nil _))) ?_
  obtain ⟨B1, e1, W1, m1, K1, R1, v1, s1⟩ := st_arr (c := c) (j := 1) (n := 9) hW (lt_sh h0)
  rw [← e1]
  have l1 : B1.1.length = B.1.length + 1 := by omega
  have h1_c := K1 _ _ h0
  refine go_aload_n dX2_init_12 0 rfl ?_
  refine go_bipush (v := 96) dX2_init_13 (by decide) ?_
  refine bb_na (bc := 0) (bs := 0) (n := 96) dX2_init_15 dX2_init_17 ff_X2_15 rfl rfl (by decide) (by decide) (by omega) (go_Z_up w _) W1 (by omega) h1_c (lvk_r (lt_sh h1_c) (lvk_r (by omega) (lvk_nil _))) ?_
  obtain ⟨B2, e2, W2, m2, K2, R2, v2, s2⟩ := st_arr (c := c) (j := 2) (n := 96) W1 (lt_sh h1_c)
  rw [← e2]
  have l2 : B2.1.length = B.1.length + 2 := by omega
  have h2_c := K2 _ _ h1_c
  refine go_aload_n dX2_init_20 0 rfl ?_
  refine go_aload_n dX2_init_21 1 rfl ?_
  refine bb_putR dX2_init_22 ff_X2_18 rfl rfl (Or.inl ⟨_, rfl⟩) W2 h2_c ?_
  obtain ⟨B3, e3, W3, m3, K3, R3, v3⟩ := st_wr (c := c) (j := 0) (q := a) W2 (lt_sh h2_c) (by omega)
  rw [← e3]
  have l3 : B3.1.length = B.1.length + 2 := by omega
  have h3_c := K3 _ _ h2_c
  exact go_vret dX2_init_25 rfl ⟨rfl, by rw [e3, e2, e1]; rfl⟩
def bX3 (B : BB) (c : Nat) (a : Nat) : BB :=
  let B1 := b_wr B c 0 (some a)
  B1
theorem stX3 {B : BB} {c a : Nat} (hW : BW B) (hl : B.1.length < 800000) (h0 : B.1[c]? = some (3, 1)) (ha : a < B.1.length) : ∃ X, X = bX3 B c a ∧ BW X ∧ X.1.length = B.1.length + 0 ∧ (∀ (c' : Nat) (k' : Nat × Nat), B.1[c']? = some k' → X.1[c']? = some k') ∧ (∀ c' j', c' < B.1.length → c' ≠ c → brf X c' j' = brf B c' j') := by
  have hcl := lt_sh h0
  obtain ⟨B1, e1, W1, m1, K1, R1, v1⟩ := st_wr (c := c) (j := 0) (q := a) hW (lt_sh h0) (by omega)
  have l1 : B1.1.length = B.1.length + 0 := by omega
  have h1_c := K1 _ _ h0
  have eX : B1 = bX3 B c a := by rw [e1]; rfl
  refine ⟨B1, eX, W1, l1, fun c' k' h' => (K1 _ _ h'), fun c' j' p1 p2 => (R1 _ _ (by omega))⟩
theorem ci_X3 {w : go_Wd} {B : BB} {c a : Nat} (hW : BW B) (hl : B.1.length < 800000) (h0 : B.1[c]? = some (3, 1)) (ha : a < B.1.length) : Ct w 1 0 0 mtX3_init [.ref c, .ref a] (bm B) (fun r' M' => r' = none ∧ M' = bm (bX3 B c a)) := by
  have hcl := lt_sh h0
  refine go_entry rfl (by decide) (Nat.le_of_ble_eq_true rfl) ?_
  show Go w 1 0 0 mtX3_init 0 [(0, .ref c), (1, .ref a)] [] (bm B) (go_Z w _)
  refine go_aload_n dX3_init_0 0 rfl ?_
  refine go_objInit dX3_init_1 oo_X3_3 (Nat.le_of_ble_eq_true rfl) (Nat.le_of_ble_eq_true rfl) ?_
  refine go_aload_n dX3_init_4 0 rfl ?_
  refine go_aload_n dX3_init_5 1 rfl ?_
  refine bb_putR dX3_init_6 ff_X3_9 rfl rfl (Or.inl ⟨_, rfl⟩) hW h0 ?_
  obtain ⟨B1, e1, W1, m1, K1, R1, v1⟩ := st_wr (c := c) (j := 0) (q := a) hW (lt_sh h0) (by omega)
  rw [← e1]
  have l1 : B1.1.length = B.1.length + 0 := by omega
  have h1_c := K1 _ _ h0
  exact go_vret dX3_init_9 rfl ⟨rfl, by rw [e1]; rfl⟩
def bX4 (B : BB) (c : Nat) (a : Nat) : BB :=
  let B1 := b_arr B c 1 5
  let B2 := b_arr B1 c 2 6
  let B3 := b_arr B2 c 3 6
  let B4 := b_arr B3 c 4 5
  let B5 := b_arr B4 c 5 5
  let B6 := b_arr B5 c 6 5
  let B7 := b_wr B6 c 0 (some a)
  B7
theorem stX4 {B : BB} {c a : Nat} (hW : BW B) (hl : B.1.length < 800000) (h0 : B.1[c]? = some (4, 7)) (ha : a < B.1.length) : ∃ X, X = bX4 B c a ∧ BW X ∧ X.1.length = B.1.length + 6 ∧ (∀ (c' : Nat) (k' : Nat × Nat), B.1[c']? = some k' → X.1[c']? = some k') ∧ (∀ c' j', c' < B.1.length → c' ≠ c → brf X c' j' = brf B c' j') := by
  have hcl := lt_sh h0
  obtain ⟨B1, e1, W1, m1, K1, R1, v1, s1⟩ := st_arr (c := c) (j := 1) (n := 5) hW (lt_sh h0)
  have l1 : B1.1.length = B.1.length + 1 := by omega
  have h1_c := K1 _ _ h0
  obtain ⟨B2, e2, W2, m2, K2, R2, v2, s2⟩ := st_arr (c := c) (j := 2) (n := 6) W1 (lt_sh h1_c)
  have l2 : B2.1.length = B.1.length + 2 := by omega
  have h2_c := K2 _ _ h1_c
  obtain ⟨B3, e3, W3, m3, K3, R3, v3, s3⟩ := st_arr (c := c) (j := 3) (n := 6) W2 (lt_sh h2_c)
  have l3 : B3.1.length = B.1.length + 3 := by omega
  have h3_c := K3 _ _ h2_c
  obtain ⟨B4, e4, W4, m4, K4, R4, v4, s4⟩ := st_arr (c := c) (j := 4) (n := 5) W3 (lt_sh h3_c)
  have l4 : B4.1.length = B.1.length + 4 := by omega
  have h4_c := K4 _ _ h3_c
  obtain ⟨B5, e5, W5, m5, K5, R5, v5, s5⟩ := st_arr (c := c) (j := 5) (n := 5) W4 (lt_sh h4_c)
  have l5 : B5.1.length = B.1.length + 5 := by omega
  have h5_c := K5 _ _ h4_c
  obtain ⟨B6, e6, W6, m6, K6, R6, v6, s6⟩ := st_arr (c := c) (j := 6) (n := 5) W5 (lt_sh h5_c)
  have l6 : B6.1.length = B.1.length + 6 := by omega
  have h6_c := K6 _ _ h5_c
  obtain ⟨B7, e7, W7, m7, K7, R7, v7⟩ := st_wr (c := c) (j := 0) (q := a) W6 (lt_sh h6_c) (by omega)
  have l7 : B7.1.length = B.1.length + 6 := by omega
  have h7_c := K7 _ _ h6_c
  have eX : B7 = bX4 B c a := by rw [e7, e6, e5, e4, e3, e2, e1]; rfl
  refine ⟨B7, eX, W7, l7, fun c' k' h' => (K7 _ _ (K6 _ _ (K5 _ _ (K4 _ _ (K3 _ _ (K2 _ _ (K1 _ _ h'))))))), fun c' j' p1 p2 => ((R7 _ _ (by omega)).trans ((R6 _ _ (by omega)).trans ((R5 _ _ (by omega)).trans ((R4 _ _ (by omega)).trans ((R3 _ _ (by omega)).trans ((R2 _ _ (by omega)).trans (R1 _ _ (by omega))))))))⟩
theorem ci_X4 {w : go_Wd} {B : BB} {c a : Nat} (hW : BW B) (hl : B.1.length < 800000) (h0 : B.1[c]? = some (4, 7)) (ha : a < B.1.length) : Ct w 1 6 32 mtX4_init [.ref c, .ref a] (bm B) (fun r' M' => r' = none ∧ M' = bm (bX4 B c a)) := by
  have hcl := lt_sh h0
  refine go_entry rfl (by decide) (Nat.le_of_ble_eq_true rfl) ?_
  show Go w 1 6 32 mtX4_init 0 [(0, .ref c), (1, .ref a)] [] (bm B) (go_Z w _)
  refine go_aload_n dX4_init_0 0 rfl ?_
  refine go_objInit dX4_init_1 oo_X4_3 (Nat.le_of_ble_eq_true rfl) (Nat.le_of_ble_eq_true rfl) ?_
  refine go_aload_n dX4_init_4 0 rfl ?_
  refine go_iconst (v := 5) dX4_init_5 (by decide) ?_
  refine bb_na (bc := 5) (bs := 27) (n := 5) dX4_init_6 dX4_init_8 ff_X4_9 rfl rfl (by decide) (by decide) (by omega) (go_Z_up w _) hW (by omega) h0 (lvk_r (lt_sh h0) (lvk_r (by omega) (lvk_nil _))) ?_
  obtain ⟨B1, e1, W1, m1, K1, R1, v1, s1⟩ := st_arr (c := c) (j := 1) (n := 5) hW (lt_sh h0)
  rw [← e1]
  have l1 : B1.1.length = B.1.length + 1 := by omega
  have h1_c := K1 _ _ h0
  refine go_aload_n dX4_init_11 0 rfl ?_
  refine go_bipush (v := 6) dX4_init_12 (by decide) ?_
  refine bb_na (bc := 4) (bs := 21) (n := 6) dX4_init_14 dX4_init_16 ff_X4_15 rfl rfl (by decide) (by decide) (by omega) (go_Z_up w _) W1 (by omega) h1_c (lvk_r (lt_sh h1_c) (lvk_r (by omega) (lvk_nil _))) ?_
  obtain ⟨B2, e2, W2, m2, K2, R2, v2, s2⟩ := st_arr (c := c) (j := 2) (n := 6) W1 (lt_sh h1_c)
  rw [← e2]
  have l2 : B2.1.length = B.1.length + 2 := by omega
  have h2_c := K2 _ _ h1_c
  refine go_aload_n dX4_init_19 0 rfl ?_
  refine go_bipush (v := 6) dX4_init_20 (by decide) ?_
  refine bb_na (bc := 3) (bs := 15) (n := 6) dX4_init_22 dX4_init_24 ff_X4_18 rfl rfl (by decide) (by decide) (by omega) (go_Z_up w _) W2 (by omega) h2_c (lvk_r (lt_sh h2_c) (lvk_r (by omega) (lvk_nil _))) ?_
  obtain ⟨B3, e3, W3, m3, K3, R3, v3, s3⟩ := st_arr (c := c) (j := 3) (n := 6) W2 (lt_sh h2_c)
  rw [← e3]
  have l3 : B3.1.length = B.1.length + 3 := by omega
  have h3_c := K3 _ _ h2_c
  refine go_aload_n dX4_init_27 0 rfl ?_
  refine go_iconst (v := 5) dX4_init_28 (by decide) ?_
  refine bb_na (bc := 2) (bs := 10) (n := 5) dX4_init_29 dX4_init_31 ff_X4_21 rfl rfl (by decide) (by decide) (by omega) (go_Z_up w _) W3 (by omega) h3_c (lvk_r (lt_sh h3_c) (lvk_r (by omega) (lvk_nil _))) ?_
  obtain ⟨B4, e4, W4, m4, K4, R4, v4, s4⟩ := st_arr (c := c) (j := 4) (n := 5) W3 (lt_sh h3_c)
  rw [← e4]
  have l4 : B4.1.length = B.1.length + 4 := by omega
  have h4_c := K4 _ _ h3_c
  refine go_aload_n dX4_init_34 0 rfl ?_
  refine go_iconst (v := 5) dX4_init_35 (by decide) ?_
  refine bb_na (bc := 1) (bs := 5) (n := 5) dX4_init_36 dX4_init_38 ff_X4_24 rfl rfl (by decide) (by decide) (by omega) (go_Z_up w _) W4 (by omega) h4_c (lvk_r (lt_sh h4_c) (lvk_r (by omega) (lvk_nil _))) ?_
  obtain ⟨B5, e5, W5, m5, K5, R5, v5, s5⟩ := st_arr (c := c) (j := 5) (n := 5) W4 (lt_sh h4_c)
  rw [← e5]
  have l5 : B5.1.length = B.1.length + 5 := by omega
  have h5_c := K5 _ _ h4_c
  refine go_aload_n dX4_init_41 0 rfl ?_
  refine go_iconst (v := 5) dX4_init_42 (by decide) ?_
  refine bb_na (bc := 0) (bs := 0) (n := 5) dX4_init_43 dX4_init_45 ff_X4_27 rfl rfl (by decide) (by decide) (by omega) (go_Z_up w _) W5 (by omega) h5_c (lvk_r (lt_sh h5_c) (lvk_r (by omega) (lvk_nil _))) ?_
  obtain ⟨B6, e6, W6, m6, K6, R6, v6, s6⟩ := st_arr (c := c) (j := 6) (n := 5) W5 (lt_sh h5_c)
  rw [← e6]
  have l6 : B6.1.length = B.1.length + 6 := by omega
  have h6_c := K6 _ _ h5_c
  refine go_aload_n dX4_init_48 0 rfl ?_
  refine go_aload_n dX4_init_49 1 rfl ?_
  refine bb_putR dX4_init_50 ff_X4_30 rfl rfl (Or.inl ⟨_, rfl⟩) W6 h6_c ?_
  obtain ⟨B7, e7, W7, m7, K7, R7, v7⟩ := st_wr (c := c) (j := 0) (q := a) W6 (lt_sh h6_c) (by omega)
  rw [← e7]
  have l7 : B7.1.length = B.1.length + 6 := by omega
  have h7_c := K7 _ _ h6_c
  exact go_vret dX4_init_53 rfl ⟨rfl, by rw [e7, e6, e5, e4, e3, e2, e1]; rfl⟩
def bX5 (B : BB) (c : Nat) (a : Nat) : BB :=
  let B1 := b_arr B c 2 10
  let B2 := b_wr B1 c 0 (some a)
  B2
theorem stX5 {B : BB} {c a : Nat} (hW : BW B) (hl : B.1.length < 800000) (h0 : B.1[c]? = some (5, 3)) (ha : a < B.1.length) : ∃ X, X = bX5 B c a ∧ BW X ∧ X.1.length = B.1.length + 1 ∧ (∀ (c' : Nat) (k' : Nat × Nat), B.1[c']? = some k' → X.1[c']? = some k') ∧ (∀ c' j', c' < B.1.length → c' ≠ c → brf X c' j' = brf B c' j') := by
  have hcl := lt_sh h0
  obtain ⟨B1, e1, W1, m1, K1, R1, v1, s1⟩ := st_arr (c := c) (j := 2) (n := 10) hW (lt_sh h0)
  have l1 : B1.1.length = B.1.length + 1 := by omega
  have h1_c := K1 _ _ h0
  obtain ⟨B2, e2, W2, m2, K2, R2, v2⟩ := st_wr (c := c) (j := 0) (q := a) W1 (lt_sh h1_c) (by omega)
  have l2 : B2.1.length = B.1.length + 1 := by omega
  have h2_c := K2 _ _ h1_c
  have eX : B2 = bX5 B c a := by rw [e2, e1]; rfl
  refine ⟨B2, eX, W2, l2, fun c' k' h' => (K2 _ _ (K1 _ _ h')), fun c' j' p1 p2 => ((R2 _ _ (by omega)).trans (R1 _ _ (by omega)))⟩
theorem ci_X5 {w : go_Wd} {B : BB} {c a : Nat} (hW : BW B) (hl : B.1.length < 800000) (h0 : B.1[c]? = some (5, 3)) (ha : a < B.1.length) : Ct w 1 1 10 mtX5_init [.ref c, .ref a] (bm B) (fun r' M' => r' = none ∧ M' = bm (bX5 B c a)) := by
  have hcl := lt_sh h0
  refine go_entry rfl (by decide) (Nat.le_of_ble_eq_true rfl) ?_
  show Go w 1 1 10 mtX5_init 0 [(0, .ref c), (1, .ref a)] [] (bm B) (go_Z w _)
  refine go_aload_n dX5_init_0 0 rfl ?_
  refine go_objInit dX5_init_1 oo_X5_3 (Nat.le_of_ble_eq_true rfl) (Nat.le_of_ble_eq_true rfl) ?_
  refine go_aload_n dX5_init_4 0 rfl ?_
  refine go_bipush (v := 10) dX5_init_5 (by decide) ?_
  refine bb_na (bc := 0) (bs := 0) (n := 10) dX5_init_7 dX5_init_9 ff_X5_9 rfl rfl (by decide) (by decide) (by omega) (go_Z_up w _) hW (by omega) h0 (lvk_r (lt_sh h0) (lvk_r (by omega) (lvk_nil _))) ?_
  obtain ⟨B1, e1, W1, m1, K1, R1, v1, s1⟩ := st_arr (c := c) (j := 2) (n := 10) hW (lt_sh h0)
  rw [← e1]
  have l1 : B1.1.length = B.1.length + 1 := by omega
  have h1_c := K1 _ _ h0
  refine go_aload_n dX5_init_12 0 rfl ?_
  refine go_aload_n dX5_init_13 1 rfl ?_
  refine bb_putR dX5_init_14 ff_X5_15 rfl rfl (Or.inl ⟨_, rfl⟩) W1 h1_c ?_
  obtain ⟨B2, e2, W2, m2, K2, R2, v2⟩ := st_wr (c := c) (j := 0) (q := a) W1 (lt_sh h1_c) (by omega)
  rw [← e2]
  have l2 : B2.1.length = B.1.length + 1 := by omega
  have h2_c := K2 _ _ h1_c
  exact go_vret dX5_init_17 rfl ⟨rfl, by rw [e2, e1]; rfl⟩
def bX6 (B : BB) (c : Nat) (a : Nat) : BB :=
  let B1 := b_arr B c 1 301
  let B2 := b_arr B1 c 2 301
  let B3 := b_arr B2 c 3 301
  let B4 := b_wr B3 c 0 (some a)
  let c5 := B4.1.length
  let B5 := b_nw B4 (8, go_N 8)
  let B6 := bX8 B5 c5
  let B7 := b_wr B6 c 4 (some c5)
  B7
theorem stX6 {B : BB} {c a : Nat} (hW : BW B) (hl : B.1.length < 700000) (h0 : B.1[c]? = some (6, 10)) (ha : a < B.1.length) : ∃ X, X = bX6 B c a ∧ BW X ∧ X.1.length = B.1.length + 10 ∧ (∀ (c' : Nat) (k' : Nat × Nat), B.1[c']? = some k' → X.1[c']? = some k') ∧ (∀ c' j', c' < B.1.length → c' ≠ c → brf X c' j' = brf B c' j') := by
  have hcl := lt_sh h0
  obtain ⟨B1, e1, W1, m1, K1, R1, v1, s1⟩ := st_arr (c := c) (j := 1) (n := 301) hW (lt_sh h0)
  have l1 : B1.1.length = B.1.length + 1 := by omega
  have h1_c := K1 _ _ h0
  obtain ⟨B2, e2, W2, m2, K2, R2, v2, s2⟩ := st_arr (c := c) (j := 2) (n := 301) W1 (lt_sh h1_c)
  have l2 : B2.1.length = B.1.length + 2 := by omega
  have h2_c := K2 _ _ h1_c
  obtain ⟨B3, e3, W3, m3, K3, R3, v3, s3⟩ := st_arr (c := c) (j := 3) (n := 301) W2 (lt_sh h2_c)
  have l3 : B3.1.length = B.1.length + 3 := by omega
  have h3_c := K3 _ _ h2_c
  obtain ⟨B4, e4, W4, m4, K4, R4, v4⟩ := st_wr (c := c) (j := 0) (q := a) W3 (lt_sh h3_c) (by omega)
  have l4 : B4.1.length = B.1.length + 3 := by omega
  have h4_c := K4 _ _ h3_c
  obtain ⟨c5, g5⟩ : ∃ x, x = B4.1.length := ⟨_, rfl⟩
  have q5 : c5 = B.1.length + 3 := by omega
  obtain ⟨B5, e5, W5, m5, K5, R5, s5⟩ := st_nw W4 (8, go_N 8)
  have l5 : B5.1.length = B.1.length + 4 := by omega
  have h5_c := K5 _ _ h4_c
  rw [← g5] at s5
  obtain ⟨B6, e6, W6, m6, K6, R6⟩ := stX8 W5 (by omega) s5
  have l6 : B6.1.length = B.1.length + 10 := by omega
  have h6_c := K6 _ _ h5_c
  have h6_c5 := K6 _ _ s5
  obtain ⟨B7, e7, W7, m7, K7, R7, v7⟩ := st_wr (c := c) (j := 4) (q := c5) W6 (lt_sh h6_c) (lt_sh h6_c5)
  have l7 : B7.1.length = B.1.length + 10 := by omega
  have h7_c := K7 _ _ h6_c
  have h7_c5 := K7 _ _ h6_c5
  have eX : B7 = bX6 B c a := by rw [e7, e6, e5, g5, e4, e3, e2, e1]; rfl
  refine ⟨B7, eX, W7, l7, fun c' k' h' => (K7 _ _ (K6 _ _ (K5 _ _ (K4 _ _ (K3 _ _ (K2 _ _ (K1 _ _ h'))))))), fun c' j' p1 p2 => ((R7 _ _ (by omega)).trans ((R6 _ _ (by omega) (by omega)).trans ((R5 _ _).trans ((R4 _ _ (by omega)).trans ((R3 _ _ (by omega)).trans ((R2 _ _ (by omega)).trans (R1 _ _ (by omega))))))))⟩
theorem ci_X6 {w : go_Wd} {B : BB} {c a : Nat} (hW : BW B) (hl : B.1.length < 700000) (h0 : B.1[c]? = some (6, 10)) (ha : a < B.1.length) : Ct w 2 10 1626 mtX6_init [.ref c, .ref a] (bm B) (fun r' M' => r' = none ∧ M' = bm (bX6 B c a)) := by
  have hcl := lt_sh h0
  refine go_entry rfl (by decide) (Nat.le_of_ble_eq_true rfl) ?_
  show Go w 2 10 1626 mtX6_init 0 [(0, .ref c), (1, .ref a)] [] (bm B) (go_Z w _)
  refine go_aload_n dX6_init_0 0 rfl ?_
  refine go_objInit dX6_init_1 oo_X6_3 (Nat.le_of_ble_eq_true rfl) (Nat.le_of_ble_eq_true rfl) ?_
  refine go_aload_n dX6_init_4 0 rfl ?_
  refine go_sipush (v := 301) dX6_init_5 (by decide) ?_
  refine bb_na (bc := 9) (bs := 1325) (n := 301) dX6_init_8 dX6_init_10 ff_X6_9 rfl rfl (by decide) (by decide) (by omega) (go_Z_up w _) hW (by omega) h0 (lvk_r (lt_sh h0) (lvk_r (by omega) (lvk_nil _))) ?_
  obtain ⟨B1, e1, W1, m1, K1, R1, v1, s1⟩ := st_arr (c := c) (j := 1) (n := 301) hW (lt_sh h0)
  rw [← e1]
  have l1 : B1.1.length = B.1.length + 1 := by omega
  have h1_c := K1 _ _ h0
  refine go_aload_n dX6_init_13 0 rfl ?_
  refine go_sipush (v := 301) dX6_init_14 (by decide) ?_
  refine bb_na (bc := 8) (bs := 1024) (n := 301) dX6_init_17 dX6_init_19 ff_X6_15 rfl rfl (by decide) (by decide) (by omega) (go_Z_up w _) W1 (by omega) h1_c (lvk_r (lt_sh h1_c) (lvk_r (by omega) (lvk_nil _))) ?_
  obtain ⟨B2, e2, W2, m2, K2, R2, v2, s2⟩ := st_arr (c := c) (j := 2) (n := 301) W1 (lt_sh h1_c)
  rw [← e2]
  have l2 : B2.1.length = B.1.length + 2 := by omega
  have h2_c := K2 _ _ h1_c
  refine go_aload_n dX6_init_22 0 rfl ?_
  refine go_sipush (v := 301) dX6_init_23 (by decide) ?_
  refine bb_na (bc := 7) (bs := 723) (n := 301) dX6_init_26 dX6_init_28 ff_X6_18 rfl rfl (by decide) (by decide) (by omega) (go_Z_up w _) W2 (by omega) h2_c (lvk_r (lt_sh h2_c) (lvk_r (by omega) (lvk_nil _))) ?_
  obtain ⟨B3, e3, W3, m3, K3, R3, v3, s3⟩ := st_arr (c := c) (j := 3) (n := 301) W2 (lt_sh h2_c)
  rw [← e3]
  have l3 : B3.1.length = B.1.length + 3 := by omega
  have h3_c := K3 _ _ h2_c
  refine go_aload_n dX6_init_31 0 rfl ?_
  refine go_aload_n dX6_init_32 1 rfl ?_
  refine bb_putR dX6_init_33 ff_X6_21 rfl rfl (Or.inr ⟨_, rfl⟩) W3 h3_c ?_
  obtain ⟨B4, e4, W4, m4, K4, R4, v4⟩ := st_wr (c := c) (j := 0) (q := a) W3 (lt_sh h3_c) (by omega)
  rw [← e4]
  have l4 : B4.1.length = B.1.length + 3 := by omega
  have h4_c := K4 _ _ h3_c
  refine go_aload_n dX6_init_36 0 rfl ?_
  refine bb_new2 (bc := 6) (bs := 715) (by decide +kernel) (by decide +kernel) dX6_init_37 cn_X6_24 (go_Z_up w _) W4 (by omega) (stk_r (lt_sh h4_c) (stk_nil _)) (lvk_r (lt_sh h4_c) (lvk_r (by omega) (lvk_nil _))) ?_
  obtain ⟨c5, g5⟩ : ∃ x, x = B4.1.length := ⟨_, rfl⟩
  rw [← g5]
  have q5 : c5 = B.1.length + 3 := by omega
  obtain ⟨B5, e5, W5, m5, K5, R5, s5⟩ := st_nw W4 (8, go_N 8)
  rw [← e5]
  have l5 : B5.1.length = B.1.length + 4 := by omega
  have h5_c := K5 _ _ h4_c
  rw [← g5] at s5
  refine go_dup dX6_init_40 rfl ?_
  refine bb_callIN (bc := 0) (bs := 0) (b := c5) (as := []) (st := [.ref c5, .ref c]) (B' := bX8 B5 c5) dX6_init_41 ll_X6_26 (ci_X8 W5 (by omega) s5) rfl (Nat.le_of_ble_eq_true rfl) (Nat.le_of_ble_eq_true rfl) (go_Z_up w _) rfl (stk_r (lt_sh s5) (stk_r (lt_sh h5_c) (stk_nil _))) (lvk_r (lt_sh h5_c) (lvk_r (by omega) (lvk_nil _))) ?_
  obtain ⟨B6, e6, W6, m6, K6, R6⟩ := stX8 W5 (by omega) s5
  rw [← e6]
  have l6 : B6.1.length = B.1.length + 10 := by omega
  have h6_c := K6 _ _ h5_c
  have h6_c5 := K6 _ _ s5
  refine bb_putQ dX6_init_44 ff_X6_27 (Or.inl ⟨_, rfl⟩) W6 h6_c ?_
  obtain ⟨B7, e7, W7, m7, K7, R7, v7⟩ := st_wr (c := c) (j := 4) (q := c5) W6 (lt_sh h6_c) (lt_sh h6_c5)
  rw [← e7]
  have l7 : B7.1.length = B.1.length + 10 := by omega
  have h7_c := K7 _ _ h6_c
  have h7_c5 := K7 _ _ h6_c5
  exact go_vret dX6_init_47 rfl ⟨rfl, by rw [e7, e6, e5, g5, e4, e3, e2, e1]; rfl⟩
