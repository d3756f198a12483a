/-! ===== String's own methods on the two texts ===== -/
theorem ctJ0_coder {w : go_Wd} {tx : Nat} {μ : PM} (i : Nat) (hi : i < 2) : Ct w 0 0 0 mtJ0_coder_7d493 [.ref (1000003 + i)] (go_mk tx μ) (fun r M => r = some (.int 0) ∧ M = go_mk tx μ) := by
  refine go_entry rfl (by decide) (Nat.le_of_ble_eq_true rfl) ?_
  show Go w 0 0 0 mtJ0_coder_7d493 0 [(0, .ref (1000003 + i))] [] (go_mk tx μ) (go_Z w _)
  refine go_getC dJ0_coder_7d493_0 fx_J0_38 ?_
  refine go_if_eq 13 dJ0_coder_7d493_3 (by decide) (fun hc => absurd hc (by decide)) (fun _ => ?_)
  refine go_aload_n dJ0_coder_7d493_6 0 rfl ?_
  refine go_sC i hi dJ0_coder_7d493_7 fx_J0_15 ?_
  refine go_goto 14 dJ0_coder_7d493_10 (by decide) ?_
  exact go_nret dJ0_coder_7d493_14 rfl rfl ⟨rfl, rfl⟩
theorem ctJ0_isLatin1 {w : go_Wd} {tx : Nat} {μ : PM} (i : Nat) (hi : i < 2) : Ct w 0 0 0 mtJ0_isLatin1_aae02 [.ref (1000003 + i)] (go_mk tx μ) (fun r M => r = some (.int 1) ∧ M = go_mk tx μ) := by
  refine go_entry rfl (by decide) (Nat.le_of_ble_eq_true rfl) ?_
  show Go w 0 0 0 mtJ0_isLatin1_aae02 0 [(0, .ref (1000003 + i))] [] (go_mk tx μ) (go_Z w _)
  refine go_getC dJ0_isLatin1_aae02_0 fx_J0_38 ?_
  refine go_if_eq 17 dJ0_isLatin1_aae02_3 (by decide) (fun hc => absurd hc (by decide)) (fun _ => ?_)
  refine go_aload_n dJ0_isLatin1_aae02_6 0 rfl ?_
  refine go_sC i hi dJ0_isLatin1_aae02_7 fx_J0_15 ?_
  refine go_if_ne 17 dJ0_isLatin1_aae02_10 (by decide) (fun hc => absurd rfl hc) (fun _ => ?_)
  refine go_iconst (v := 1) dJ0_isLatin1_aae02_13 (by decide) ?_
  refine go_goto 18 dJ0_isLatin1_aae02_14 (by decide) ?_
  exact go_zret dJ0_isLatin1_aae02_18 rfl (Or.inr rfl) ⟨rfl, rfl⟩
theorem ctJ0_length {w : go_Wd} {tx : Nat} {μ : PM} (i : Nat) (hi : i < 2) {n : Int32} (hn : Int32.ofNat (([151, 11] : List Nat).getD i 0) = n) : Ct w 1 0 0 mtJ0_length_8abf5 [.ref (1000003 + i)] (go_mk tx μ) (fun r M => r = some (.int (n >>> ((0 : Int32) &&& 31))) ∧ M = go_mk tx μ) := by
  refine go_entry rfl (by decide) (Nat.le_of_ble_eq_true rfl) ?_
  show Go w 1 0 0 mtJ0_length_8abf5 0 [(0, .ref (1000003 + i))] [] (go_mk tx μ) (go_Z w _)
  refine go_aload_n dJ0_length_8abf5_0 0 rfl ?_
  refine go_sV i hi dJ0_length_8abf5_1 fx_J0_9 ?_
  refine go_sL i hi dJ0_length_8abf5_4 hn ?_
  refine go_aload_n dJ0_length_8abf5_5 0 rfl ?_
  refine pp_callVX (as := []) (st := [.int n]) (rv := some (.int 0)) (μ1 := μ) (st1 := [.int 0, .int n]) i hi dJ0_length_8abf5_6 ll_J0_335 rfl (ctJ0_coder i hi) rfl (Nat.le_of_ble_eq_true rfl) (Nat.le_of_ble_eq_true rfl) (go_Z_up w _) rfl rfl ?_
  refine go_ishr dJ0_length_8abf5_9 ?_
  exact go_iret dJ0_length_8abf5_10 rfl ⟨rfl, rfl⟩
/-- Preconditions.checkIndex, inside -/
theorem ctJ3_checkIndex {w : go_Wd} {tx : Nat} {μ : PM} {a b : Int32} {v : Value} (hv : v = .null ∨ ∃ q, v = .ref q) (h0 : ¬ a < 0) (h1 : ¬ b ≤ a) : Ct w 0 0 0 mtJ3_checkIndex_8e157 [.int a, .int b, v] (go_mk tx μ) (fun r M => r = some (.int a) ∧ M = go_mk tx μ) := by
  have hc : v.category = 1 := by rcases hv with rfl | ⟨q, rfl⟩ <;> rfl
  refine go_entry2 (lv := [(0, .int a), (1, .int b), (2, v)]) rfl (by decide) (by rcases hv with rfl | ⟨q, rfl⟩ <;> exact Nat.le_of_ble_eq_true rfl) (by rcases hv with rfl | ⟨q, rfl⟩ <;> rfl) ?_
  refine go_iload_n dJ3_checkIndex_8e157_0 0 rfl ?_
  refine go_if_lt 9 dJ3_checkIndex_8e157_1 (by decide) (fun hc => absurd hc h0) (fun _ => ?_)
  refine go_iload_n dJ3_checkIndex_8e157_4 0 rfl ?_
  refine go_iload_n dJ3_checkIndex_8e157_5 1 rfl ?_
  refine go_icmp_lt 16 dJ3_checkIndex_8e157_6 (by decide) (fun _ => ?_) (fun hc => absurd (Int32.not_lt.mp hc) h1)
  refine go_iload_n dJ3_checkIndex_8e157_16 0 rfl ?_
  exact go_iret dJ3_checkIndex_8e157_17 rfl ⟨rfl, rfl⟩
