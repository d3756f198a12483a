/-! ===== String.charAt on the two texts ===== -/
def go_by (i : Nat) : List Int32 := ([go_words77, go_signs93] : List (List Int32)).getD i []
def go_bn (i : Nat) : Nat := ([151, 11] : List Nat).getD i 0
theorem go_by_ok : ∀ i, i < 2 → ∀ k, k < go_bn i → ((((go_by i).getD k 0) &&& 255).toUInt32 % 65536).toInt32 = (go_by i).getD k 0 ∧ vp_nar .char ((go_by i).getD k 0) = (go_by i).getD k 0 := by decide +kernel
theorem go_by_nar {x : Int32} (h : vp_nar .char x = x) : narrow .char (.int x) = .int x := congrArg Value.int h
theorem ctJ0_checkIndex {w : go_Wd} {tx : Nat} {μ : PM} {a b : Int32} (h0 : ¬ a < 0) (h1 : ¬ b ≤ a) : Ct w 1 0 0 mtJ0_checkIndex_df160 [.int a, .int b] (go_mk tx μ) (fun r M => r = none ∧ M = go_mk tx μ) := by
  refine go_entry rfl (by decide) (Nat.le_of_ble_eq_true rfl) ?_
  show Go w 1 0 0 mtJ0_checkIndex_df160 0 [(0, .int a), (1, .int b)] [] (go_mk tx μ) (go_Z w _)
  refine go_iload_n dJ0_checkIndex_df160_0 0 rfl ?_
  refine go_iload_n dJ0_checkIndex_df160_1 1 rfl ?_
  have key : ∀ v : Value, v = .null ∨ (∃ q, v = .ref q) → Go w 1 0 0 mtJ0_checkIndex_df160 5 [(0, .int a), (1, .int b)] [v, .int b, .int a] (go_mk tx μ) (go_Z w (fun r M => r = none ∧ M = go_mk tx μ)) := by
    intro v hv
    refine pp_callS (as := [.int a, .int b, v]) (st := []) (rv := some (.int a)) (μ1 := μ) (st1 := [.int a]) dJ0_checkIndex_df160_5 ll_J0_1059 (ctJ3_checkIndex hv h0 h1) rfl (Nat.le_of_ble_eq_true rfl) (Nat.le_of_ble_eq_true rfl) (go_Z_up w _) rfl rfl ?_
    refine go_pop dJ0_checkIndex_df160_8 rfl ?_
    exact go_vret dJ0_checkIndex_df160_9 rfl ⟨rfl, rfl⟩
  exact go_getS dJ0_checkIndex_df160_2 fx_J0_1053 (key .null (Or.inl rfl)) (key (.ref 1000007) (Or.inr ⟨_, rfl⟩))
theorem ctJ1_charAt {w : go_Wd} {tx : Nat} {μ : PM} (i : Nat) (hi : i < 2) {j : Int32} (hin : vp_in j (go_bn i)) : Ct w 2 0 0 mtJ1_charAt_3b067 [.ref (1000005 + i), .int j] (go_mk tx μ) (fun r M => r = some (.int ((go_by i).getD j.toNatClampNeg 0)) ∧ M = go_mk tx μ) := by
  have hlt := go_in_lt hin
  have hb2 : go_bn i < 2 ^ 31 := by rcases (show i = 0 ∨ i = 1 by omega) with rfl | rfl <;> decide
  obtain ⟨k, hk, hjk⟩ := vp_in_of hin hb2
  have g0 : ¬ j < 0 := fun q => hin (Or.inl q)
  have g1 : ¬ Int32.ofNat (go_bn i) ≤ j := by rw [hjk]; exact nI_ge hk hb2
  obtain ⟨e1, e2⟩ := go_by_ok i hi j.toNatClampNeg hlt
  refine go_entry rfl (by decide) (Nat.le_of_ble_eq_true rfl) ?_
  show Go w 2 0 0 mtJ1_charAt_3b067 0 [(0, .ref (1000005 + i)), (1, .int j)] [] (go_mk tx μ) (go_Z w _)
  refine go_iload_n dJ1_charAt_3b067_0 1 rfl ?_
  refine go_aload_n dJ1_charAt_3b067_1 0 rfl ?_
  refine go_sL i hi dJ1_charAt_3b067_2 (v := Int32.ofNat (go_bn i)) rfl ?_
  refine pp_callS (as := [.int j, .int (Int32.ofNat (go_bn i))]) (st := []) (rv := none) (μ1 := μ) (st1 := []) dJ1_charAt_3b067_3 ll_J1_9 (ctJ0_checkIndex g0 g1) rfl (Nat.le_of_ble_eq_true rfl) (Nat.le_of_ble_eq_true rfl) (go_Z_up w _) rfl rfl ?_
  refine go_aload_n dJ1_charAt_3b067_6 0 rfl ?_
  refine go_iload_n dJ1_charAt_3b067_7 1 rfl ?_
  refine go_sB i hi (x := (go_by i).getD j.toNatClampNeg 0) dJ1_charAt_3b067_8 hin rfl ?_
  refine go_sipush (v := 255) dJ1_charAt_3b067_9 (by decide) ?_
  refine go_iand dJ1_charAt_3b067_12 ?_
  refine go_i2c dJ1_charAt_3b067_13 ?_
  refine go_top (x := (go_by i).getD j.toNatClampNeg 0) e1.symm ?_
  exact go_nret dJ1_charAt_3b067_14 rfl (go_by_nar e2) ⟨rfl, rfl⟩
theorem ctJ0_charAt {w : go_Wd} {tx : Nat} {μ : PM} (i : Nat) (hi : i < 2) {j : Int32} (hin : vp_in j (go_bn i)) : Ct w 3 0 0 mtJ0_charAt_5068e [.ref (1000003 + i), .int j] (go_mk tx μ) (fun r M => r = some (.int ((go_by i).getD j.toNatClampNeg 0)) ∧ M = go_mk tx μ) := by
  obtain ⟨e1, e2⟩ := go_by_ok i hi j.toNatClampNeg (go_in_lt hin)
  refine go_entry rfl (by decide) (Nat.le_of_ble_eq_true rfl) ?_
  show Go w 3 0 0 mtJ0_charAt_5068e 0 [(0, .ref (1000003 + i)), (1, .int j)] [] (go_mk tx μ) (go_Z w _)
  refine go_aload_n dJ0_charAt_5068e_0 0 rfl ?_
  refine pp_callVX (as := []) (st := []) (rv := some (.int 1)) (μ1 := μ) (st1 := [.int 1]) i hi dJ0_charAt_5068e_1 ll_J0_492 rfl (ctJ0_isLatin1 i hi) rfl (Nat.le_of_ble_eq_true rfl) (Nat.le_of_ble_eq_true rfl) (go_Z_up w _) rfl rfl ?_
  refine go_if_eq 16 dJ0_charAt_5068e_4 (by decide) (fun hc => absurd hc (by decide)) (fun _ => ?_)
  refine go_aload_n dJ0_charAt_5068e_7 0 rfl ?_
  refine go_sV i hi dJ0_charAt_5068e_8 fx_J0_9 ?_
  refine go_iload_n dJ0_charAt_5068e_11 1 rfl ?_
  refine pp_callS (as := [.ref (1000005 + i), .int j]) (st := []) (rv := some (.int ((go_by i).getD j.toNatClampNeg 0))) (μ1 := μ) (st1 := [.int ((go_by i).getD j.toNatClampNeg 0)]) dJ0_charAt_5068e_12 ll_J0_495 (ctJ1_charAt i hi hin) rfl (Nat.le_of_ble_eq_true rfl) (Nat.le_of_ble_eq_true rfl) (go_Z_up w _) rfl rfl ?_
  exact go_nret dJ0_charAt_5068e_15 rfl (go_by_nar e2) ⟨rfl, rfl⟩
