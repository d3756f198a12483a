/-! ===== Steps: thirty Waters ===== -/
def b_w1 (B : BB) (a i : Nat) : BB :=
  let c1 := B.1.length
  let B1 := b_nw B (10, go_N 10)
  let B2 := bX10 B1 c1
  b_wr B2 a i (some c1)
def b_wN (B : BB) (a : Nat) : Nat → BB
  | 0 => B
  | n + 1 => b_w1 (b_wN B a n) a n
theorem st_w1 {B : BB} {a i : Nat} (hW : BW B) (hl : B.1.length < 790000) (ha : a < B.1.length) : ∃ X, X = b_w1 B a i ∧ BW X ∧ X.1.length = B.1.length + 5 ∧ (∀ (c' : Nat) (k' : Nat × Nat), B.1[c']? = some k' → X.1[c']? = some k') ∧ (∀ c' j', c' < B.1.length → c' ≠ a → brf X c' j' = brf B c' j') := by
  obtain ⟨c1, g1⟩ : ∃ x, x = B.1.length := ⟨_, rfl⟩
  obtain ⟨B1, e1, W1, m1, K1, R1, s1⟩ := st_nw hW (10, go_N 10)
  rw [← g1] at s1
  obtain ⟨B2, e2, W2, m2, K2, R2⟩ := stX10 W1 (by omega) s1
  obtain ⟨B3, e3, W3, m3, K3, R3, v3⟩ := st_wr (c := a) (j := i) (q := c1) W2 (by omega) (by omega)
  have eX : B3 = b_w1 B a i := by rw [e3, e2, e1, g1]; rfl
  exact ⟨B3, eX, W3, by omega, fun c' k' h' => K3 _ _ (K2 _ _ (K1 _ _ h')), fun c' j' p1 p2 => (R3 _ _ (by omega)).trans ((R2 _ _ (by omega) (by omega)).trans (R1 _ _))⟩
theorem st_wN {B : BB} {a : Nat} (hW : BW B) (hl : B.1.length < 700100) (ha : a < B.1.length) : ∀ i, i ≤ 30 → BW (b_wN B a i) ∧ (b_wN B a i).1.length = B.1.length + 5 * i ∧ (∀ (c' : Nat) (k' : Nat × Nat), B.1[c']? = some k' → (b_wN B a i).1[c']? = some k') ∧ (∀ c' j', c' < B.1.length → c' ≠ a → brf (b_wN B a i) c' j' = brf B c' j') := by
  intro i
  induction i with
  | zero => exact fun _ => ⟨hW, rfl, fun _ _ h => h, fun _ _ _ _ => rfl⟩
  | succ i ih =>
    intro hi
    obtain ⟨k1, k2, k3, k4⟩ := ih (by omega)
    obtain ⟨X, e, W, l, K, R⟩ := st_w1 (i := i) (a := a) k1 (by omega) (by omega)
    have e : X = b_wN B a (i + 1) := e
    rw [← e]
    exact ⟨W, by omega, fun c' k' h => K _ _ (k3 _ _ h), fun c' j' p1 p2 => (R _ _ (by omega) p2).trans (k4 _ _ p1 p2)⟩
def bX7 (B : BB) (c : Nat) : BB :=
  let c1 := B.1.length
  let B1 := b_nw B (104, 30)
  let B2 := b_wr B1 c 0 (some c1)
  b_wN B2 c1 30
theorem stX7 {B : BB} {c : Nat} (hW : BW B) (hl : B.1.length < 700000) (h0 : B.1[c]? = some (7, 3)) : ∃ X, X = bX7 B c ∧ BW X ∧ X.1.length = B.1.length + 151 ∧ (∀ (c' : Nat) (k' : Nat × Nat), B.1[c']? = some k' → X.1[c']? = some k') ∧ (∀ c' j', c' < B.1.length → c' ≠ c → brf X c' j' = brf B c' j') := by
  have hcl := lt_sh h0
  obtain ⟨c1, g1⟩ : ∃ x, x = B.1.length := ⟨_, rfl⟩
  obtain ⟨B1, e1, W1, m1, K1, R1, s1⟩ := st_nw hW (104, 30)
  obtain ⟨B2, e2, W2, m2, K2, R2, v2⟩ := st_wr (c := c) (j := 0) (q := c1) W1 (by omega) (by omega)
  obtain ⟨k1, k2, k3, k4⟩ := st_wN (a := c1) W2 (by omega) (by omega) 30 (by omega)
  have eX : b_wN B2 c1 30 = bX7 B c := by rw [e2, e1, g1]; rfl
  exact ⟨_, eX, k1, by omega, fun c' k' h' => k3 _ _ (K2 _ _ (K1 _ _ h')), fun c' j' p1 p2 => (k4 _ _ (by omega) (by omega)).trans ((R2 _ _ (by omega)).trans (R1 _ _))⟩
theorem ci_X7 {w : go_Wd} {B : BB} {c : Nat} (hW : BW B) (hl : B.1.length < 700000) (h0 : B.1[c]? = some (7, 3)) : Ct w 2 151 1770 mtX7_init [.ref c] (bm B) (fun r' M' => r' = none ∧ M' = bm (bX7 B c)) := by
  have hcl := lt_sh h0
  refine go_entry rfl (by decide) (Nat.le_of_ble_eq_true rfl) ?_
  show Go w 2 151 1770 mtX7_init 0 [(0, .ref c)] [] (bm B) (go_Z w _)
  refine go_aload_n dX7_init_0 0 rfl ?_
  refine go_objInit dX7_init_1 oo_X7_3 (Nat.le_of_ble_eq_true rfl) (Nat.le_of_ble_eq_true rfl) ?_
  refine go_aload_n dX7_init_4 0 rfl ?_
  refine go_bipush (v := 30) dX7_init_5 (by decide) ?_
  refine bb_newW (bc := 150) (bs := 1740) (N := 30) dX7_init_7 cl_X7_9 (by decide) (by decide) (by omega) (go_Z_up w _) hW (by omega) (stk_r (lt_sh h0) (stk_nil _)) (lvk_r (lt_sh h0) (lvk_nil _)) ?_
  obtain ⟨a, g1⟩ : ∃ x, x = B.1.length := ⟨_, rfl⟩
  rw [← g1]
  obtain ⟨B1, e1, W1, m1, K1, R1, s1⟩ := st_nw hW (104, 30)
  rw [← e1]
  rw [← g1] at s1
  have h1 := K1 _ _ h0
  refine bb_putR dX7_init_10 ff_X7_11 rfl rfl (Or.inr ⟨_, rfl⟩) W1 h1 ?_
  obtain ⟨B2, e2, W2, m2, K2, R2, v2⟩ := st_wr (c := c) (j := 0) (q := a) W1 (by omega) (by omega)
  rw [← e2]
  have h2 := K2 _ _ h1
  have s2 := K2 _ _ s1
  have eX : b_wN B2 a 30 = bX7 B c := by rw [e2, e1, g1]; rfl
  rw [← eX]
  refine go_iconst (v := 0) dX7_init_13 (by decide) ?_
  refine go_istore_n dX7_init_14 (by decide) rfl ?_
  show Go w 2 150 1740 mtX7_init 15 [(1, .int 0), (0, .ref c)] [] (bm B2) (go_Z w _)
  have LP : ∀ k i, i + k = 30 → Go w 2 (5 * k) (58 * k) mtX7_init 15 [(1, .int (nI i)), (0, .ref c)] [] (bm (b_wN B2 a i)) (go_Z w (fun r' M' => r' = none ∧ M' = bm (b_wN B2 a 30))) := by
    intro k
    induction k with
    | zero =>
      intro i hi
      have e : i = 30 := by omega
      subst e
      refine go_iload_n dX7_init_15 0 rfl ?_
      refine go_bipush (v := 30) dX7_init_16 (by decide) ?_
      refine go_icmp_ge 40 dX7_init_18 (by decide) (fun _ => ?_) (fun hc => absurd (show (30 : Int32) ≤ nI 30 by decide) hc)
      exact go_vret dX7_init_40 rfl ⟨rfl, rfl⟩
    | succ k ih =>
      intro i hi
      obtain ⟨k1, k2, k3, k4⟩ := st_wN (a := a) W2 (by omega) (by omega) i (by omega)
      have hci := k3 _ _ h2
      have hai := k3 _ _ s2
      have ri : brf (b_wN B2 a i) c 0 = some a := (k4 _ _ (by omega) (by omega)).trans v2
      refine go_iload_n dX7_init_15 0 rfl ?_
      refine go_bipush (v := 30) dX7_init_16 (by decide) ?_
      refine go_icmp_ge 40 dX7_init_18 (by decide) (fun hc => absurd hc (show ¬ (30 : Int32) ≤ nI i by rw [l_le (n := 30) (by omega) (by omega)]; omega)) (fun _ => ?_)
      refine go_aload_n dX7_init_21 1 rfl ?_
      refine go_getR dX7_init_22 ff_X7_11 (Or.inr ⟨_, rfl⟩) (show (b_wN B2 a i).1[c]? = some (7, 3) from hci) (show brf (b_wN B2 a i) c 0 = some a from ri) ?_
      refine go_iload_n dX7_init_25 0 rfl ?_
      refine bb_new2 (bc := 4 + 5 * k) (bs := 47 + 58 * k) (by omega) (by show 11 + (47 + 58 * k) = _; omega) dX7_init_26 cn_X7_9 (go_Z_up w _) k1 (by omega) (stk_i (stk_r (by omega) (stk_nil _))) (lvk_i (lvk_r (by omega) (lvk_nil _))) ?_
      obtain ⟨q, g2⟩ : ∃ x, x = (b_wN B2 a i).1.length := ⟨_, rfl⟩
      rw [← g2]
      obtain ⟨B3, e3, W3, m3, K3, R3, s3⟩ := st_nw k1 (10, go_N 10)
      rw [← e3]
      rw [← g2] at s3
      refine go_dup dX7_init_29 rfl ?_
      refine bb_callIN (bc := 5 * k) (bs := 58 * k) (b := q) (as := []) (st := [.ref q, .int (nI i), .ref a]) (B' := bX10 B3 q) dX7_init_30 ll_X7_17 (ci_X10 W3 (by omega) s3) rfl (Nat.le_of_ble_eq_true rfl) (Nat.le_of_ble_eq_true rfl) (go_Z_up w _) rfl (stk_r (by omega) (stk_i (stk_r (by omega) (stk_nil _)))) (lvk_i (lvk_r (by omega) (lvk_nil _))) ?_
      obtain ⟨B4, e4, W4, m4, K4, R4⟩ := stX10 W3 (by omega) s3
      rw [← e4]
      refine bb_astW (j := i) (n := 30) (nn := 11) dX7_init_33 (cl_n (by omega)) W4 (K4 _ _ (K3 _ _ hai)) (K4 _ _ s3) (vp_n (by omega) (by omega)) ?_
      refine go_iinc (v := nI (i + 1)) dX7_init_34 0 rfl (add_l 1 i) (by decide) rfl ?_
      have eN : b_wr B4 a i (some q) = b_wN B2 a (i + 1) := by rw [e4, e3, g2]; rfl
      rw [eN]
      show Go w 2 (5 * k) (58 * k) mtX7_init 37 [(1, .int (nI (i + 1))), (0, .ref c)] [] (bm (b_wN B2 a (i + 1))) (go_Z w _)
      refine go_goto 15 dX7_init_37 (by decide) ?_
      exact ih (i + 1) (by omega)
  exact LP 30 0 (by omega)
