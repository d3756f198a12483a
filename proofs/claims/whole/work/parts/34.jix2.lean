/-! ===== String.indexOf on SIGNS, up to the call ===== -/
def go_ix (c : Int32) : Int32 := if c < 0 then -1 else if 255 < c then -1 else go_ixf c.toInt8.toInt32 11 0
theorem ctJ1_canEncode {w : go_Wd} {tx : Nat} {μ : PM} {c : Int32} : Ct w 0 0 0 mtJ1_canEncode_9a6ad [.int c] (go_mk tx μ) (fun r M => r = some (.int (if c < 0 then 0 else if 255 < c then 0 else 1)) ∧ M = go_mk tx μ) := by
  refine go_entry rfl (by decide) (Nat.le_of_ble_eq_true rfl) ?_
  show Go w 0 0 0 mtJ1_canEncode_9a6ad 0 [(0, .int c)] [] (go_mk tx μ) (go_Z w _)
  refine go_iload_n dJ1_canEncode_9a6ad_0 0 rfl ?_
  refine go_if_lt 15 dJ1_canEncode_9a6ad_1 (by decide) (fun hc => ?_) (fun hc => ?_)
  · refine go_iconst (v := 0) dJ1_canEncode_9a6ad_15 (by decide) ?_
    exact go_zret dJ1_canEncode_9a6ad_16 rfl (Or.inl rfl) ⟨by rw [if_pos hc], rfl⟩
  · refine go_iload_n dJ1_canEncode_9a6ad_4 0 rfl ?_
    refine go_sipush (v := 255) dJ1_canEncode_9a6ad_5 (by decide) ?_
    refine go_icmp_gt 15 dJ1_canEncode_9a6ad_8 (by decide) (fun hd => ?_) (fun hd => ?_)
    · refine go_iconst (v := 0) dJ1_canEncode_9a6ad_15 (by decide) ?_
      exact go_zret dJ1_canEncode_9a6ad_16 rfl (Or.inl rfl) ⟨by rw [if_neg hc, if_pos hd], rfl⟩
    · refine go_iconst (v := 1) dJ1_canEncode_9a6ad_11 (by decide) ?_
      refine go_goto 16 dJ1_canEncode_9a6ad_12 (by decide) ?_
      exact go_zret dJ1_canEncode_9a6ad_16 rfl (Or.inr rfl) ⟨by rw [if_neg hc, if_neg hd], rfl⟩
theorem ctJ1_indexOf {w : go_Wd} {tx : Nat} {μ : PM} {c : Int32} : Ct w 1 0 0 mtJ1_indexOf_4cfef [.ref 1000006, .int c, .int 0, .int 11] (go_mk tx μ) (fun r M => r = some (.int (go_ix c)) ∧ M = go_mk tx μ) := by
  refine go_entry rfl (by decide) (Nat.le_of_ble_eq_true rfl) ?_
  show Go w 1 0 0 mtJ1_indexOf_4cfef 0 [(0, .ref 1000006), (1, .int c), (2, .int 0), (3, .int 11)] [] (go_mk tx μ) (go_Z w _)
  refine go_iload_n dJ1_indexOf_4cfef_0 1 rfl ?_
  refine pp_callS (as := [.int c]) (st := []) (rv := some (.int (if c < 0 then 0 else if 255 < c then 0 else 1))) (μ1 := μ) (st1 := [.int (if c < 0 then 0 else if 255 < c then 0 else 1)]) dJ1_indexOf_4cfef_1 ll_J1_88 ctJ1_canEncode rfl (Nat.le_of_ble_eq_true rfl) (Nat.le_of_ble_eq_true rfl) (go_Z_up w _) rfl rfl ?_
  refine go_if_ne 9 dJ1_indexOf_4cfef_4 (by decide) (fun hc => ?_) (fun hc => ?_)
  · have h1 : ¬ c < 0 := fun z => hc (if_pos z)
    have h2 : ¬ 255 < c := fun z => hc (by rw [if_neg h1, if_pos z])
    refine go_iload_n dJ1_indexOf_4cfef_9 2 rfl ?_
    refine go_iconst (v := 0) dJ1_indexOf_4cfef_10 (by decide) ?_
    refine go_mmax dJ1_indexOf_4cfef_11 mm_J1_92 (by decide) (Nat.le_of_ble_eq_true rfl) ?_
    refine go_top (x := 0) (by decide) ?_
    refine go_istore_n dJ1_indexOf_4cfef_14 (by decide) rfl ?_
    show Go w 1 0 0 mtJ1_indexOf_4cfef 15 [(2, .int 0), (0, .ref 1000006), (1, .int c), (3, .int 11)] [] (go_mk tx μ) (go_Z w _)
    refine go_iload_n dJ1_indexOf_4cfef_15 3 rfl ?_
    refine go_aload_n dJ1_indexOf_4cfef_16 1 rfl ?_
    refine go_sL 1 (by decide) dJ1_indexOf_4cfef_17 (v := 11) (by decide) ?_
    refine go_mmin dJ1_indexOf_4cfef_18 mm_J1_38 (by decide) (Nat.le_of_ble_eq_true rfl) ?_
    refine go_top (x := 11) (by decide) ?_
    refine go_istore_n dJ1_indexOf_4cfef_21 (by decide) rfl ?_
    show Go w 1 0 0 mtJ1_indexOf_4cfef 22 [(3, .int 11), (2, .int 0), (0, .ref 1000006), (1, .int c)] [] (go_mk tx μ) (go_Z w _)
    refine go_iload_n dJ1_indexOf_4cfef_22 1 rfl ?_
    refine go_iload_n dJ1_indexOf_4cfef_23 0 rfl ?_
    refine go_icmp_lt 29 dJ1_indexOf_4cfef_24 (by decide) (fun _ => ?_) (fun hd => absurd (by decide) hd)
    refine go_aload_n dJ1_indexOf_4cfef_29 2 rfl ?_
    refine go_iload_n dJ1_indexOf_4cfef_30 3 rfl ?_
    refine go_iload_n dJ1_indexOf_4cfef_31 1 rfl ?_
    refine go_iload_n dJ1_indexOf_4cfef_32 0 rfl ?_
    refine pp_callS (as := [.ref 1000006, .int c, .int 0, .int 11]) (st := []) (rv := some (.int (go_ixf c.toInt8.toInt32 11 0))) (μ1 := μ) (st1 := [.int (go_ixf c.toInt8.toInt32 11 0)]) dJ1_indexOf_4cfef_33 ll_J1_95 ctJ1_indexOfChar rfl (Nat.le_of_ble_eq_true rfl) (Nat.le_of_ble_eq_true rfl) (go_Z_up w _) rfl rfl ?_
    exact go_iret dJ1_indexOf_4cfef_36 rfl ⟨by unfold go_ix; rw [if_neg h1, if_neg h2], rfl⟩
  · refine go_iconst (v := -1) dJ1_indexOf_4cfef_7 (by decide) ?_
    refine go_iret dJ1_indexOf_4cfef_8 rfl ⟨?_, rfl⟩
    unfold go_ix
    by_cases h1 : c < 0
    · rw [if_pos h1]
    · by_cases h2 : 255 < c
      · rw [if_neg h1, if_pos h2]
      · rw [if_neg h1, if_neg h2] at hc
        exact absurd hc (by decide)
theorem ctJ0_indexOf2 {w : go_Wd} {tx : Nat} {μ : PM} {c : Int32} : Ct w 2 0 0 mtJ0_indexOf_7cf53 [.ref 1000004, .int c, .int 0] (go_mk tx μ) (fun r M => r = some (.int (go_ix c)) ∧ M = go_mk tx μ) := by
  have hlen := ctJ0_length (w := w) (tx := tx) (μ := μ) 1 (by decide) (n := 11) (by decide)
  rw [show (11 : Int32) >>> ((0 : Int32) &&& 31) = 11 from by decide] at hlen
  refine go_entry rfl (by decide) (Nat.le_of_ble_eq_true rfl) ?_
  show Go w 2 0 0 mtJ0_indexOf_7cf53 0 [(0, .ref 1000004), (1, .int c), (2, .int 0)] [] (go_mk tx μ) (go_Z w _)
  refine go_aload_n dJ0_indexOf_7cf53_0 0 rfl ?_
  refine pp_callVX (as := []) (st := []) (rv := some (.int 1)) (μ1 := μ) (st1 := [.int 1]) 1 (by decide) dJ0_indexOf_7cf53_1 ll_J0_492 rfl (ctJ0_isLatin1 1 (by decide)) rfl (Nat.le_of_ble_eq_true rfl) (Nat.le_of_ble_eq_true rfl) (go_Z_up w _) rfl rfl ?_
  refine go_if_eq 23 dJ0_indexOf_7cf53_4 (by decide) (fun hc => absurd hc (by decide)) (fun _ => ?_)
  refine go_aload_n dJ0_indexOf_7cf53_7 0 rfl ?_
  refine go_sV 1 (by decide) dJ0_indexOf_7cf53_8 fx_J0_9 ?_
  refine go_iload_n dJ0_indexOf_7cf53_11 1 rfl ?_
  refine go_iload_n dJ0_indexOf_7cf53_12 2 rfl ?_
  refine go_aload_n dJ0_indexOf_7cf53_13 0 rfl ?_
  refine pp_callVX (as := []) (st := [.int 0, .int c, .ref 1000006]) (rv := some (.int 11)) (μ1 := μ) (st1 := [.int 11, .int 0, .int c, .ref 1000006]) 1 (by decide) dJ0_indexOf_7cf53_14 ll_J0_505 rfl hlen rfl (Nat.le_of_ble_eq_true rfl) (Nat.le_of_ble_eq_true rfl) (go_Z_up w _) rfl rfl ?_
  refine pp_callS (as := [.ref 1000006, .int c, .int 0, .int 11]) (st := []) (rv := some (.int (go_ix c))) (μ1 := μ) (st1 := [.int (go_ix c)]) dJ0_indexOf_7cf53_17 ll_J0_637 ctJ1_indexOf rfl (Nat.le_of_ble_eq_true rfl) (Nat.le_of_ble_eq_true rfl) (go_Z_up w _) rfl rfl ?_
  refine go_goto 36 dJ0_indexOf_7cf53_20 (by decide) ?_
  exact go_iret dJ0_indexOf_7cf53_36 rfl ⟨rfl, rfl⟩
theorem ctJ0_indexOf {w : go_Wd} {tx : Nat} {μ : PM} {c : Int32} : Ct w 3 0 0 mtJ0_indexOf_0f7a4 [.ref 1000004, .int c] (go_mk tx μ) (fun r M => r = some (.int (go_ix c)) ∧ M = go_mk tx μ) := by
  refine go_entry rfl (by decide) (Nat.le_of_ble_eq_true rfl) ?_
  show Go w 3 0 0 mtJ0_indexOf_0f7a4 0 [(0, .ref 1000004), (1, .int c)] [] (go_mk tx μ) (go_Z w _)
  refine go_aload_n dJ0_indexOf_0f7a4_0 0 rfl ?_
  refine go_iload_n dJ0_indexOf_0f7a4_1 1 rfl ?_
  refine go_iconst (v := 0) dJ0_indexOf_0f7a4_2 (by decide) ?_
  refine pp_callVX (as := [.int c, .int 0]) (st := []) (rv := some (.int (go_ix c))) (μ1 := μ) (st1 := [.int (go_ix c)]) 1 (by decide) dJ0_indexOf_0f7a4_3 ll_J0_633 rfl ctJ0_indexOf2 rfl (Nat.le_of_ble_eq_true rfl) (Nat.le_of_ble_eq_true rfl) (go_Z_up w _) rfl rfl ?_
  exact go_iret dJ0_indexOf_0f7a4_6 rfl ⟨rfl, rfl⟩
theorem ctW_length {w : go_Wd} {tx : Nat} {μ : PM} : Ct w 1 0 0 mtJ0_length_8abf5 [.ref 1000003] (go_mk tx μ) (fun r M => r = some (.int 151) ∧ M = go_mk tx μ) := by
  have hlen := ctJ0_length (w := w) (tx := tx) (μ := μ) 0 (by decide) (n := 151) (by decide)
  rw [show (151 : Int32) >>> ((0 : Int32) &&& 31) = 151 from by decide] at hlen
  exact hlen
theorem ctW_charAt {w : go_Wd} {tx : Nat} {μ : PM} {j : Int32} (hin : vp_in j 151) : Ct w 3 0 0 mtJ0_charAt_5068e [.ref 1000003, .int j] (go_mk tx μ) (fun r M => r = some (.int ((go_by 0).getD j.toNatClampNeg 0)) ∧ M = go_mk tx μ) := ctJ0_charAt 0 (by decide) hin
