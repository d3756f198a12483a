def lbX12_says_3 (μ : PM) (a0 : Int32) (a1 : Int32) (a2 : Int32) (a3 : Int32) (a4 : Int32)  (v6 : Int32) : Option ((Int32) ⊕ ((Int32) ⊕ (Int32 × PM))) :=
  (if a0 < 0 then some (.inr (.inr ((a2, μ)))) else go_chk (681 * a0) 2724 <| (if (μ.1 404 ((681 * a0) : Int32).toNatClampNeg) ≤ v6 then some (.inr (.inr ((a2, μ)))) else go_chk (((681 * a0) + 1) + (3 * v6)) 2724 <| (if (μ.1 404 ((((681 * a0) + 1) + (3 * v6)) : Int32).toNatClampNeg) = a1 then some (.inr (.inl v6)) else some (.inl (v6 + 1)))))
def fX12_says (μ : PM) (a0 : Int32) (a1 : Int32) (a2 : Int32) (a3 : Int32) (a4 : Int32) : Option (Int32 × PM) :=
  ((lp (fun s => lbX12_says_3 μ a0 a1 a2 a3 a4 s) go_fuel 0).bind fun ρ3 => go_cs ρ3 (fun e4 => (fX12_summedUp μ a0 e4).bind fun q5 => some (((fX12_cut q5.1 a3 a4), q5.2))) (fun y => some y))
def ggX12_says_3 (w : go_Wd) (tx : Nat) (Q : Option Value → go_M → Prop) (μ : PM) (a0 : Int32) (a1 : Int32) (a2 : Int32) (a3 : Int32) (a4 : Int32)  (s : Int32) : Prop := Go w 5 0 0 mtX12_says 3 [(0, .ref 401), (1, .int a0), (2, .int a1), (3, .int a2), (4, .int a3), (5, .int a4), (6, .int s)] [] (go_mk tx μ) (go_Z w Q)
def eeX12_says_3 (w : go_Wd) (tx : Nat) (Q : Option Value → go_M → Prop) (μ : PM) (a0 : Int32) (a1 : Int32) (a2 : Int32) (a3 : Int32) (a4 : Int32)  : (Int32) ⊕ (Int32 × PM) → Prop
  | .inl e => Go w 5 0 0 mtX12_says 43 [(0, .ref 401), (1, .int a0), (4, .int a3), (5, .int a4), (6, .int e)] [] (go_mk tx μ) (go_Z w Q)
  | .inr y => Q (some (.int y.1)) (go_mk tx y.2)
set_option maxRecDepth 20000 in
set_option maxHeartbeats 4000000 in
theorem lqX12_says_3 (w : go_Wd) (tx : Nat) (Q : Option Value → go_M → Prop) (μ : PM) (a0 : Int32) (a1 : Int32) (a2 : Int32) (a3 : Int32) (a4 : Int32)   (v6 : Int32) (out : (Int32) ⊕ ((Int32) ⊕ (Int32 × PM))) (h : lbX12_says_3 μ a0 a1 a2 a3 a4  v6 = some out) (hK : go_out (ggX12_says_3 w tx Q μ a0 a1 a2 a3 a4 ) (eeX12_says_3 w tx Q μ a0 a1 a2 a3 a4 ) out) : ggX12_says_3 w tx Q μ a0 a1 a2 a3 a4  v6 := by
  unfold lbX12_says_3 at h
  show Go w 5 0 0 mtX12_says 3 [(0, .ref 401), (1, .int a0), (2, .int a1), (3, .int a2), (4, .int a3), (5, .int a4), (6, .int v6)] [] (go_mk tx μ) (go_Z w Q)
  refine go_iload_n dX12_says_3 1 rfl ?_
  refine go_if_lt 64 dX12_says_4 (by decide) (fun hc => ?_) (fun hc => ?_)
  · have h := go_ifp hc h
    refine go_iload_n dX12_says_64 3 rfl ?_
    cases h
    exact go_iret dX12_says_65 rfl hK
  · have h := go_ifn hc h
    refine go_iload dX12_says_7 6 rfl ?_
    refine go_aload_n dX12_says_9 0 rfl ?_
    refine pp_getR dX12_says_10 ff_X12_16 (Or.inr ⟨_, rfl⟩) sh_401 rf_401_2 ?_
    refine go_sipush (v := 681) dX12_says_13 (by decide) ?_
    refine go_iload_n dX12_says_16 1 rfl ?_
    refine go_imul dX12_says_17 ?_
    obtain ⟨hz1, h⟩ := go_chk_e h
    refine pp_ild dX12_says_18 sh_404 hz1 ?_
    refine go_icmp_ge 64 dX12_says_19 (by decide) (fun hc => ?_) (fun hc => ?_)
    · have h := go_ifp hc h
      refine go_iload_n dX12_says_64 3 rfl ?_
      cases h
      exact go_iret dX12_says_65 rfl hK
    · have h := go_ifn hc h
      refine go_aload_n dX12_says_22 0 rfl ?_
      refine pp_getR dX12_says_23 ff_X12_16 (Or.inr ⟨_, rfl⟩) sh_401 rf_401_2 ?_
      refine go_sipush (v := 681) dX12_says_26 (by decide) ?_
      refine go_iload_n dX12_says_29 1 rfl ?_
      refine go_imul dX12_says_30 ?_
      refine go_iconst (v := 1) dX12_says_31 (by decide) ?_
      refine go_iadd dX12_says_32 ?_
      refine go_iconst (v := 3) dX12_says_33 (by decide) ?_
      refine go_iload dX12_says_34 6 rfl ?_
      refine go_imul dX12_says_36 ?_
      refine go_iadd dX12_says_37 ?_
      obtain ⟨hz2, h⟩ := go_chk_e h
      refine pp_ild dX12_says_38 sh_404 hz2 ?_
      refine go_iload_n dX12_says_39 2 rfl ?_
      refine go_icmp_ne 58 dX12_says_40 (by decide) (fun hc => ?_) (fun hc => ?_)
      · have h := go_ifn hc h
        refine go_iinc (v := (v6 + 1)) dX12_says_58 6 rfl rfl (by decide) rfl ?_
        show Go w 5 0 0 mtX12_says 61 [(6, .int (v6 + 1)), (0, .ref 401), (1, .int a0), (2, .int a1), (3, .int a2), (4, .int a3), (5, .int a4)] [] (go_mk tx μ) (go_Z w Q)
        refine go_goto 3 dX12_says_61 (by decide) ?_
        cases h
        have hK : Go w 5 0 0 mtX12_says 3 [(0, .ref 401), (1, .int a0), (2, .int a1), (3, .int a2), (4, .int a3), (5, .int a4), (6, .int (v6 + 1))] [] (go_mk tx μ) (go_Z w Q) := hK
        exact go_pick [1, 2, 3, 4, 5, 6, 0] rfl hK
      · have h := go_ifp hc h
        cases h
        have hK : Go w 5 0 0 mtX12_says 43 [(0, .ref 401), (1, .int a0), (4, .int a3), (5, .int a4), (6, .int v6)] [] (go_mk tx μ) (go_Z w Q) := hK
        exact go_pick [0, 1, 4, 5, 6] rfl hK
set_option maxRecDepth 20000 in
set_option maxHeartbeats 4000000 in
theorem cmX12_says (w : go_Wd) (tx : Nat) (Q : Option Value → go_M → Prop) (μ : PM) (a0 : Int32) (a1 : Int32) (a2 : Int32) (a3 : Int32) (a4 : Int32) (out : Int32 × PM) (h : fX12_says μ a0 a1 a2 a3 a4 = some out) (hK : Q (some (.int out.1)) (go_mk tx out.2)) : Go w 5 0 0 mtX12_says 0 [(0, .ref 401), (1, .int a0), (2, .int a1), (3, .int a2), (4, .int a3), (5, .int a4)] [] (go_mk tx μ) (go_Z w Q) := by
  unfold fX12_says at h
  refine go_iconst (v := 0) dX12_says_0 (by decide) ?_
  refine go_istore dX12_says_1 (by decide) rfl ?_
  show Go w 5 0 0 mtX12_says 3 [(6, .int 0), (0, .ref 401), (1, .int a0), (2, .int a1), (3, .int a2), (4, .int a3), (5, .int a4)] [] (go_mk tx μ) (go_Z w Q)
  obtain ⟨ρ3, hρ3, h⟩ := go_bind h
  refine go_pick [1, 2, 3, 4, 5, 6, 0] rfl ?_
  refine go_lp (G := ggX12_says_3 w tx Q μ a0 a1 a2 a3 a4 ) (E := eeX12_says_3 w tx Q μ a0 a1 a2 a3 a4 ) (fun s out h hK => lqX12_says_3 w tx Q μ a0 a1 a2 a3 a4   s out h hK) go_fuel 0 ρ3 hρ3 ?_
  rcases ρ3 with e4 | y
  · have h := go_csl h
    show Go w 5 0 0 mtX12_says 43 [(0, .ref 401), (1, .int a0), (4, .int a3), (5, .int a4), (6, .int e4)] [] (go_mk tx μ) (go_Z w Q)
    refine go_aload_n dX12_says_43 0 rfl ?_
    refine go_iload_n dX12_says_44 1 rfl ?_
    refine go_iload dX12_says_45 4 rfl ?_
    obtain ⟨q5, hq5, h⟩ := go_bind h
    refine pp_callV (as := [.int a0, .int e4]) (st := []) (rv := (some (.long q5.1))) (μ1 := q5.2) (st1 := [.long q5.1]) dX12_says_47 ll_X12_295 sh_401 (by decide) rfl (ctX12_summedUp  hq5) rfl (Nat.le_of_ble_eq_true rfl) (Nat.le_of_ble_eq_true rfl) (go_Z_up w _) rfl rfl ?_
    refine go_iload dX12_says_50 2 rfl ?_
    refine go_iload dX12_says_52 3 rfl ?_
    refine pp_callS (as := [.long q5.1, .int a3, .int a4]) (st := []) (rv := (some (.int (fX12_cut q5.1 a3 a4)))) (μ1 := q5.2) (st1 := [.int (fX12_cut q5.1 a3 a4)]) dX12_says_54 ll_X12_298 (ctX12_cut  rfl) rfl (Nat.le_of_ble_eq_true rfl) (Nat.le_of_ble_eq_true rfl) (go_Z_up w _) rfl rfl ?_
    cases h
    exact go_iret dX12_says_57 rfl hK
  · have h := go_csr h
    cases h
    exact hK
theorem ctX12_says {w : go_Wd} {tx : Nat} {μ : PM} {a0 : Int32} {a1 : Int32} {a2 : Int32} {a3 : Int32} {a4 : Int32} {r : Int32} {μ1 : PM}  (h : fX12_says μ a0 a1 a2 a3 a4 = some (r, μ1)) : Ct w 5 0 0 mtX12_says [.ref 401, .int a0, .int a1, .int a2, .int a3, .int a4] (go_mk tx μ) (fun r' M' => r' = some (.int r) ∧ M' = go_mk tx μ1) :=
  go_entry rfl (by decide) (Nat.le_of_ble_eq_true rfl) (cmX12_says w tx _ μ a0 a1 a2 a3 a4 _ h ⟨rfl, rfl⟩)
def fX12_cellOf (μ : PM) (a0 : Int32) : Option (Int32) :=
  (fX12_get μ a0 0).bind fun q1 => (if (fX12_isCell q1) = 0 then some (0) else (fX12_get μ a0 0).bind fun q2 => some (q2))
set_option maxRecDepth 20000 in
set_option maxHeartbeats 4000000 in
theorem cmX12_cellOf (w : go_Wd) (tx : Nat) (Q : Option Value → go_M → Prop) (μ : PM) (a0 : Int32) (out : Int32) (h : fX12_cellOf μ a0 = some out) (hK : Q (some (.int out)) (go_mk tx μ)) : Go w 2 0 0 mtX12_cellOf 0 [(0, .ref 401), (1, .int a0)] [] (go_mk tx μ) (go_Z w Q) := by
  unfold fX12_cellOf at h
  refine go_aload_n dX12_cellOf_0 0 rfl ?_
  refine go_iload_n dX12_cellOf_1 1 rfl ?_
  refine go_iconst (v := 0) dX12_cellOf_2 (by decide) ?_
  obtain ⟨q1, hq1, h⟩ := go_bind h
  refine pp_callV (as := [.int a0, .int 0]) (st := []) (rv := (some (.int q1))) (μ1 := μ) (st1 := [.int q1]) dX12_cellOf_3 ll_X12_264 sh_401 (by decide) rfl (ctX12_get  hq1) rfl (Nat.le_of_ble_eq_true rfl) (Nat.le_of_ble_eq_true rfl) (go_Z_up w _) rfl rfl ?_
  refine pp_callS (as := [.int q1]) (st := []) (rv := (some (.int (fX12_isCell q1)))) (μ1 := μ) (st1 := [.int (fX12_isCell q1)]) dX12_cellOf_6 ll_X12_84 (ctX12_isCell  rfl) rfl (Nat.le_of_ble_eq_true rfl) (Nat.le_of_ble_eq_true rfl) (go_Z_up w _) rfl rfl ?_
  refine go_if_eq 21 dX12_cellOf_9 (by decide) (fun hc => ?_) (fun hc => ?_)
  · have h := go_ifp hc h
    refine go_iconst (v := 0) dX12_cellOf_21 (by decide) ?_
    cases h
    exact go_iret dX12_cellOf_22 rfl hK
  · have h := go_ifn hc h
    refine go_aload_n dX12_cellOf_12 0 rfl ?_
    refine go_iload_n dX12_cellOf_13 1 rfl ?_
    refine go_iconst (v := 0) dX12_cellOf_14 (by decide) ?_
    obtain ⟨q2, hq2, h⟩ := go_bind h
    refine pp_callV (as := [.int a0, .int 0]) (st := []) (rv := (some (.int q2))) (μ1 := μ) (st1 := [.int q2]) dX12_cellOf_15 ll_X12_264 sh_401 (by decide) rfl (ctX12_get  hq2) rfl (Nat.le_of_ble_eq_true rfl) (Nat.le_of_ble_eq_true rfl) (go_Z_up w _) rfl rfl ?_
    refine go_goto 22 dX12_cellOf_18 (by decide) ?_
    cases h
    exact go_iret dX12_cellOf_22 rfl hK
theorem ctX12_cellOf {w : go_Wd} {tx : Nat} {μ : PM} {a0 : Int32} {r : Int32}  (h : fX12_cellOf μ a0 = some r) : Ct w 2 0 0 mtX12_cellOf [.ref 401, .int a0] (go_mk tx μ) (fun r' M' => r' = some (.int r) ∧ M' = go_mk tx μ) :=
  go_entry rfl (by decide) (Nat.le_of_ble_eq_true rfl) (cmX12_cellOf w tx _ μ a0 _ h ⟨rfl, rfl⟩)
def fX12_layNamed (μ : PM) (a0 : Int32) (a1 : Int32) : Option (PM) :=
  go_let (pm_wi μ 407 0 (μ.1 402 7)) fun μ1 => go_let (pm_wi μ1 407 1 (μ1.1 402 9)) fun μ2 => go_chk (36 + a0) 1792 <| go_let (pm_wi μ2 407 2 (μ2.1 402 ((36 + a0) : Int32).toNatClampNeg)) fun μ4 => (fX12_get μ4 a0 1).bind fun q5 => go_let (pm_wi μ4 407 3 q5) fun μ6 => go_let (pm_wi μ6 407 4 a0) fun μ7 => go_chk (30 + a0) 1792 <| go_let (pm_wi μ7 407 5 (μ7.1 402 ((30 + a0) : Int32).toNatClampNeg)) fun μ9 => go_let (pm_wi μ9 407 6 a1) fun μ10 => some (μ10)
set_option maxRecDepth 20000 in
set_option maxHeartbeats 4000000 in
theorem cmX12_layNamed (w : go_Wd) (tx : Nat) (Q : Option Value → go_M → Prop) (μ : PM) (a0 : Int32) (a1 : Int32) (out : PM) (h : fX12_layNamed μ a0 a1 = some out) (hK : Q none (go_mk tx out)) : Go w 1 0 0 mtX12_layNamed 0 [(0, .ref 401), (1, .int a0), (2, .int a1)] [] (go_mk tx μ) (go_Z w Q) := by
  unfold fX12_layNamed at h
  refine go_aload_n dX12_layNamed_0 0 rfl ?_
  refine pp_getR dX12_layNamed_1 ff_X12_32 (Or.inr ⟨_, rfl⟩) sh_401 rf_401_20 ?_
  refine go_iconst (v := 0) dX12_layNamed_4 (by decide) ?_
  refine go_aload_n dX12_layNamed_5 0 rfl ?_
  refine pp_getR dX12_layNamed_6 ff_X12_7 (Or.inr ⟨_, rfl⟩) sh_401 rf_401_0 ?_
  refine go_bipush (v := 7) dX12_layNamed_9 (by decide) ?_
  refine pp_ildc (q := 7) dX12_layNamed_11 sh_402 (by decide) ?_
  obtain ⟨μ1, hμ1, h⟩ := go_let_e h
  refine pp_istc (q := 0) dX12_layNamed_12 sh_407 (by decide) hμ1 ?_
  refine go_aload_n dX12_layNamed_13 0 rfl ?_
  refine pp_getR dX12_layNamed_14 ff_X12_32 (Or.inr ⟨_, rfl⟩) sh_401 rf_401_20 ?_
  refine go_iconst (v := 1) dX12_layNamed_17 (by decide) ?_
  refine go_aload_n dX12_layNamed_18 0 rfl ?_
  refine pp_getR dX12_layNamed_19 ff_X12_7 (Or.inr ⟨_, rfl⟩) sh_401 rf_401_0 ?_
  refine go_bipush (v := 9) dX12_layNamed_22 (by decide) ?_
  refine pp_ildc (q := 9) dX12_layNamed_24 sh_402 (by decide) ?_
  obtain ⟨μ2, hμ2, h⟩ := go_let_e h
  refine pp_istc (q := 1) dX12_layNamed_25 sh_407 (by decide) hμ2 ?_
  refine go_aload_n dX12_layNamed_26 0 rfl ?_
  refine pp_getR dX12_layNamed_27 ff_X12_32 (Or.inr ⟨_, rfl⟩) sh_401 rf_401_20 ?_
  refine go_iconst (v := 2) dX12_layNamed_30 (by decide) ?_
  refine go_aload_n dX12_layNamed_31 0 rfl ?_
  refine pp_getR dX12_layNamed_32 ff_X12_7 (Or.inr ⟨_, rfl⟩) sh_401 rf_401_0 ?_
  refine go_bipush (v := 36) dX12_layNamed_35 (by decide) ?_
  refine go_iload_n dX12_layNamed_37 1 rfl ?_
  refine go_iadd dX12_layNamed_38 ?_
  obtain ⟨hz3, h⟩ := go_chk_e h
  refine pp_ild dX12_layNamed_39 sh_402 hz3 ?_
  obtain ⟨μ4, hμ4, h⟩ := go_let_e h
  refine pp_istc (q := 2) dX12_layNamed_40 sh_407 (by decide) hμ4 ?_
  refine go_aload_n dX12_layNamed_41 0 rfl ?_
  refine pp_getR dX12_layNamed_42 ff_X12_32 (Or.inr ⟨_, rfl⟩) sh_401 rf_401_20 ?_
  refine go_iconst (v := 3) dX12_layNamed_45 (by decide) ?_
  refine go_aload_n dX12_layNamed_46 0 rfl ?_
  refine go_iload_n dX12_layNamed_47 1 rfl ?_
  refine go_iconst (v := 1) dX12_layNamed_48 (by decide) ?_
  obtain ⟨q5, hq5, h⟩ := go_bind h
  refine pp_callV (as := [.int a0, .int 1]) (st := [.int 3, .ref 407]) (rv := (some (.int q5))) (μ1 := μ4) (st1 := [.int q5, .int 3, .ref 407]) dX12_layNamed_49 ll_X12_264 sh_401 (by decide) rfl (ctX12_get  hq5) rfl (Nat.le_of_ble_eq_true rfl) (Nat.le_of_ble_eq_true rfl) (go_Z_up w _) rfl rfl ?_
  obtain ⟨μ6, hμ6, h⟩ := go_let_e h
  refine pp_istc (q := 3) dX12_layNamed_52 sh_407 (by decide) hμ6 ?_
  refine go_aload_n dX12_layNamed_53 0 rfl ?_
  refine pp_getR dX12_layNamed_54 ff_X12_32 (Or.inr ⟨_, rfl⟩) sh_401 rf_401_20 ?_
  refine go_iconst (v := 4) dX12_layNamed_57 (by decide) ?_
  refine go_iload_n dX12_layNamed_58 1 rfl ?_
  obtain ⟨μ7, hμ7, h⟩ := go_let_e h
  refine pp_istc (q := 4) dX12_layNamed_59 sh_407 (by decide) hμ7 ?_
  refine go_aload_n dX12_layNamed_60 0 rfl ?_
  refine pp_getR dX12_layNamed_61 ff_X12_32 (Or.inr ⟨_, rfl⟩) sh_401 rf_401_20 ?_
  refine go_iconst (v := 5) dX12_layNamed_64 (by decide) ?_
  refine go_aload_n dX12_layNamed_65 0 rfl ?_
  refine pp_getR dX12_layNamed_66 ff_X12_7 (Or.inr ⟨_, rfl⟩) sh_401 rf_401_0 ?_
  refine go_bipush (v := 30) dX12_layNamed_69 (by decide) ?_
  refine go_iload_n dX12_layNamed_71 1 rfl ?_
  refine go_iadd dX12_layNamed_72 ?_
  obtain ⟨hz8, h⟩ := go_chk_e h
  refine pp_ild dX12_layNamed_73 sh_402 hz8 ?_
  obtain ⟨μ9, hμ9, h⟩ := go_let_e h
  refine pp_istc (q := 5) dX12_layNamed_74 sh_407 (by decide) hμ9 ?_
  refine go_aload_n dX12_layNamed_75 0 rfl ?_
  refine pp_getR dX12_layNamed_76 ff_X12_32 (Or.inr ⟨_, rfl⟩) sh_401 rf_401_20 ?_
  refine go_bipush (v := 6) dX12_layNamed_79 (by decide) ?_
  refine go_iload_n dX12_layNamed_81 2 rfl ?_
  obtain ⟨μ10, hμ10, h⟩ := go_let_e h
  refine pp_istc (q := 6) dX12_layNamed_82 sh_407 (by decide) hμ10 ?_
  cases h
  exact go_vret dX12_layNamed_83 rfl hK
theorem ctX12_layNamed {w : go_Wd} {tx : Nat} {μ : PM} {a0 : Int32} {a1 : Int32} {μ1 : PM}  (h : fX12_layNamed μ a0 a1 = some μ1) : Ct w 1 0 0 mtX12_layNamed [.ref 401, .int a0, .int a1] (go_mk tx μ) (fun r' M' => r' = none ∧ M' = go_mk tx μ1) :=
  go_entry rfl (by decide) (Nat.le_of_ble_eq_true rfl) (cmX12_layNamed w tx _ μ a0 a1 _ h ⟨rfl, rfl⟩)
def fX12_meltsOf (μ : PM) (a0 : Int32) (a1 : Int32) : Option (Int32 × PM) :=
  (fX12_layNamed μ a1 0).bind fun q1 => go_chk (36 + a1) 1792 <| (fX12_says q1 a0 0 ((q1.1 402 9) - (q1.1 402 ((36 + a1) : Int32).toNatClampNeg)) (-99) 99).bind fun q3 => some ((q3.1, q3.2))
set_option maxRecDepth 20000 in
set_option maxHeartbeats 4000000 in
theorem cmX12_meltsOf (w : go_Wd) (tx : Nat) (Q : Option Value → go_M → Prop) (μ : PM) (a0 : Int32) (a1 : Int32) (out : Int32 × PM) (h : fX12_meltsOf μ a0 a1 = some out) (hK : Q (some (.int out.1)) (go_mk tx out.2)) : Go w 6 0 0 mtX12_meltsOf 0 [(0, .ref 401), (1, .int a0), (2, .int a1)] [] (go_mk tx μ) (go_Z w Q) := by
  unfold fX12_meltsOf at h
  refine go_aload_n dX12_meltsOf_0 0 rfl ?_
  refine go_iload_n dX12_meltsOf_1 2 rfl ?_
  refine go_iconst (v := 0) dX12_meltsOf_2 (by decide) ?_
  obtain ⟨q1, hq1, h⟩ := go_bind h
  refine pp_callV (as := [.int a1, .int 0]) (st := []) (rv := none) (μ1 := q1) (st1 := []) dX12_meltsOf_3 ll_X12_302 sh_401 (by decide) rfl (ctX12_layNamed  hq1) rfl (Nat.le_of_ble_eq_true rfl) (Nat.le_of_ble_eq_true rfl) (go_Z_up w _) rfl rfl ?_
  refine go_aload_n dX12_meltsOf_6 0 rfl ?_
  refine go_iload_n dX12_meltsOf_7 1 rfl ?_
  refine go_iconst (v := 0) dX12_meltsOf_8 (by decide) ?_
  refine go_aload_n dX12_meltsOf_9 0 rfl ?_
  refine pp_getR dX12_meltsOf_10 ff_X12_7 (Or.inr ⟨_, rfl⟩) sh_401 rf_401_0 ?_
  refine go_bipush (v := 9) dX12_meltsOf_13 (by decide) ?_
  refine pp_ildc (q := 9) dX12_meltsOf_15 sh_402 (by decide) ?_
  refine go_aload_n dX12_meltsOf_16 0 rfl ?_
  refine pp_getR dX12_meltsOf_17 ff_X12_7 (Or.inr ⟨_, rfl⟩) sh_401 rf_401_0 ?_
  refine go_bipush (v := 36) dX12_meltsOf_20 (by decide) ?_
  refine go_iload_n dX12_meltsOf_22 2 rfl ?_
  refine go_iadd dX12_meltsOf_23 ?_
  obtain ⟨hz2, h⟩ := go_chk_e h
  refine pp_ild dX12_meltsOf_24 sh_402 hz2 ?_
  refine go_isub dX12_meltsOf_25 ?_
  refine go_bipush (v := (-99)) dX12_meltsOf_26 (by decide) ?_
  refine go_bipush (v := 99) dX12_meltsOf_28 (by decide) ?_
  obtain ⟨q3, hq3, h⟩ := go_bind h
  refine pp_callV (as := [.int a0, .int 0, .int ((q1.1 402 9) - (q1.1 402 ((36 + a1) : Int32).toNatClampNeg)), .int (-99), .int 99]) (st := []) (rv := (some (.int q3.1))) (μ1 := q3.2) (st1 := [.int q3.1]) dX12_meltsOf_30 ll_X12_305 sh_401 (by decide) rfl (ctX12_says  hq3) rfl (Nat.le_of_ble_eq_true rfl) (Nat.le_of_ble_eq_true rfl) (go_Z_up w _) rfl rfl ?_
  cases h
  exact go_iret dX12_meltsOf_33 rfl hK
theorem ctX12_meltsOf {w : go_Wd} {tx : Nat} {μ : PM} {a0 : Int32} {a1 : Int32} {r : Int32} {μ1 : PM}  (h : fX12_meltsOf μ a0 a1 = some (r, μ1)) : Ct w 6 0 0 mtX12_meltsOf [.ref 401, .int a0, .int a1] (go_mk tx μ) (fun r' M' => r' = some (.int r) ∧ M' = go_mk tx μ1) :=
  go_entry rfl (by decide) (Nat.le_of_ble_eq_true rfl) (cmX12_meltsOf w tx _ μ a0 a1 _ h ⟨rfl, rfl⟩)
def fX12_breaksOf (μ : PM) (a0 : Int32) (a1 : Int32) : Option (Int32 × PM) :=
  (fX12_layNamed μ a0 a1).bind fun q1 => (fX12_says q1 (q1.1 402 3) 1 3 0 10).bind fun q2 => some ((q2.1, q2.2))
set_option maxRecDepth 20000 in
set_option maxHeartbeats 4000000 in
theorem cmX12_breaksOf (w : go_Wd) (tx : Nat) (Q : Option Value → go_M → Prop) (μ : PM) (a0 : Int32) (a1 : Int32) (out : Int32 × PM) (h : fX12_breaksOf μ a0 a1 = some out) (hK : Q (some (.int out.1)) (go_mk tx out.2)) : Go w 6 0 0 mtX12_breaksOf 0 [(0, .ref 401), (1, .int a0), (2, .int a1)] [] (go_mk tx μ) (go_Z w Q) := by
  unfold fX12_breaksOf at h
  refine go_aload_n dX12_breaksOf_0 0 rfl ?_
  refine go_iload_n dX12_breaksOf_1 1 rfl ?_
  refine go_iload_n dX12_breaksOf_2 2 rfl ?_
  obtain ⟨q1, hq1, h⟩ := go_bind h
  refine pp_callV (as := [.int a0, .int a1]) (st := []) (rv := none) (μ1 := q1) (st1 := []) dX12_breaksOf_3 ll_X12_302 sh_401 (by decide) rfl (ctX12_layNamed  hq1) rfl (Nat.le_of_ble_eq_true rfl) (Nat.le_of_ble_eq_true rfl) (go_Z_up w _) rfl rfl ?_
  refine go_aload_n dX12_breaksOf_6 0 rfl ?_
  refine go_aload_n dX12_breaksOf_7 0 rfl ?_
  refine pp_getR dX12_breaksOf_8 ff_X12_7 (Or.inr ⟨_, rfl⟩) sh_401 rf_401_0 ?_
  refine go_iconst (v := 3) dX12_breaksOf_11 (by decide) ?_
  refine pp_ildc (q := 3) dX12_breaksOf_12 sh_402 (by decide) ?_
  refine go_iconst (v := 1) dX12_breaksOf_13 (by decide) ?_
  refine go_iconst (v := 3) dX12_breaksOf_14 (by decide) ?_
  refine go_iconst (v := 0) dX12_breaksOf_15 (by decide) ?_
  refine go_bipush (v := 10) dX12_breaksOf_16 (by decide) ?_
  obtain ⟨q2, hq2, h⟩ := go_bind h
  refine pp_callV (as := [.int (q1.1 402 3), .int 1, .int 3, .int 0, .int 10]) (st := []) (rv := (some (.int q2.1))) (μ1 := q2.2) (st1 := [.int q2.1]) dX12_breaksOf_18 ll_X12_305 sh_401 (by decide) rfl (ctX12_says  hq2) rfl (Nat.le_of_ble_eq_true rfl) (Nat.le_of_ble_eq_true rfl) (go_Z_up w _) rfl rfl ?_
  cases h
  exact go_iret dX12_breaksOf_21 rfl hK
theorem ctX12_breaksOf {w : go_Wd} {tx : Nat} {μ : PM} {a0 : Int32} {a1 : Int32} {r : Int32} {μ1 : PM}  (h : fX12_breaksOf μ a0 a1 = some (r, μ1)) : Ct w 6 0 0 mtX12_breaksOf [.ref 401, .int a0, .int a1] (go_mk tx μ) (fun r' M' => r' = some (.int r) ∧ M' = go_mk tx μ1) :=
  go_entry rfl (by decide) (Nat.le_of_ble_eq_true rfl) (cmX12_breaksOf w tx _ μ a0 a1 _ h ⟨rfl, rfl⟩)
def fX12_claimsOf (μ : PM) (a0 : Int32) (a1 : Int32) : Option (Int32 × PM) :=
  (fX12_cellOf μ a0).bind fun q1 => (fX12_layNamed μ a0 q1).bind fun q2 => go_chk (42 + a1) 1792 <| go_let (pm_wi q2 407 7 (q2.1 402 ((42 + a1) : Int32).toNatClampNeg)) fun μ4 => go_let (pm_wi μ4 407 8 a1) fun μ5 => (fX12_says μ5 (μ5.1 402 3) 2 1 (-99) 99).bind fun q6 => some ((q6.1, q6.2))
set_option maxRecDepth 20000 in
set_option maxHeartbeats 4000000 in
theorem cmX12_claimsOf (w : go_Wd) (tx : Nat) (Q : Option Value → go_M → Prop) (μ : PM) (a0 : Int32) (a1 : Int32) (out : Int32 × PM) (h : fX12_claimsOf μ a0 a1 = some out) (hK : Q (some (.int out.1)) (go_mk tx out.2)) : Go w 6 0 0 mtX12_claimsOf 0 [(0, .ref 401), (1, .int a0), (2, .int a1)] [] (go_mk tx μ) (go_Z w Q) := by
  unfold fX12_claimsOf at h
  refine go_aload_n dX12_claimsOf_0 0 rfl ?_
  refine go_iload_n dX12_claimsOf_1 1 rfl ?_
  refine go_aload_n dX12_claimsOf_2 0 rfl ?_
  refine go_iload_n dX12_claimsOf_3 1 rfl ?_
  obtain ⟨q1, hq1, h⟩ := go_bind h
  refine pp_callV (as := [.int a0]) (st := [.int a0, .ref 401]) (rv := (some (.int q1))) (μ1 := μ) (st1 := [.int q1, .int a0, .ref 401]) dX12_claimsOf_4 ll_X12_309 sh_401 (by decide) rfl (ctX12_cellOf  hq1) rfl (Nat.le_of_ble_eq_true rfl) (Nat.le_of_ble_eq_true rfl) (go_Z_up w _) rfl rfl ?_
  obtain ⟨q2, hq2, h⟩ := go_bind h
  refine pp_callV (as := [.int a0, .int q1]) (st := []) (rv := none) (μ1 := q2) (st1 := []) dX12_claimsOf_7 ll_X12_302 sh_401 (by decide) rfl (ctX12_layNamed  hq2) rfl (Nat.le_of_ble_eq_true rfl) (Nat.le_of_ble_eq_true rfl) (go_Z_up w _) rfl rfl ?_
  refine go_aload_n dX12_claimsOf_10 0 rfl ?_
  refine pp_getR dX12_claimsOf_11 ff_X12_32 (Or.inr ⟨_, rfl⟩) sh_401 rf_401_20 ?_
  refine go_bipush (v := 7) dX12_claimsOf_14 (by decide) ?_
  refine go_aload_n dX12_claimsOf_16 0 rfl ?_
  refine pp_getR dX12_claimsOf_17 ff_X12_7 (Or.inr ⟨_, rfl⟩) sh_401 rf_401_0 ?_
  refine go_bipush (v := 42) dX12_claimsOf_20 (by decide) ?_
  refine go_iload_n dX12_claimsOf_22 2 rfl ?_
  refine go_iadd dX12_claimsOf_23 ?_
  obtain ⟨hz3, h⟩ := go_chk_e h
  refine pp_ild dX12_claimsOf_24 sh_402 hz3 ?_
  obtain ⟨μ4, hμ4, h⟩ := go_let_e h
  refine pp_istc (q := 7) dX12_claimsOf_25 sh_407 (by decide) hμ4 ?_
  refine go_aload_n dX12_claimsOf_26 0 rfl ?_
  refine pp_getR dX12_claimsOf_27 ff_X12_32 (Or.inr ⟨_, rfl⟩) sh_401 rf_401_20 ?_
  refine go_bipush (v := 8) dX12_claimsOf_30 (by decide) ?_
  refine go_iload_n dX12_claimsOf_32 2 rfl ?_
  obtain ⟨μ5, hμ5, h⟩ := go_let_e h
  refine pp_istc (q := 8) dX12_claimsOf_33 sh_407 (by decide) hμ5 ?_
  refine go_aload_n dX12_claimsOf_34 0 rfl ?_
  refine go_aload_n dX12_claimsOf_35 0 rfl ?_
  refine pp_getR dX12_claimsOf_36 ff_X12_7 (Or.inr ⟨_, rfl⟩) sh_401 rf_401_0 ?_
  refine go_iconst (v := 3) dX12_claimsOf_39 (by decide) ?_
  refine pp_ildc (q := 3) dX12_claimsOf_40 sh_402 (by decide) ?_
  refine go_iconst (v := 2) dX12_claimsOf_41 (by decide) ?_
  refine go_iconst (v := 1) dX12_claimsOf_42 (by decide) ?_
  refine go_bipush (v := (-99)) dX12_claimsOf_43 (by decide) ?_
  refine go_bipush (v := 99) dX12_claimsOf_45 (by decide) ?_
  obtain ⟨q6, hq6, h⟩ := go_bind h
  refine pp_callV (as := [.int (μ5.1 402 3), .int 2, .int 1, .int (-99), .int 99]) (st := []) (rv := (some (.int q6.1))) (μ1 := q6.2) (st1 := [.int q6.1]) dX12_claimsOf_47 ll_X12_305 sh_401 (by decide) rfl (ctX12_says  hq6) rfl (Nat.le_of_ble_eq_true rfl) (Nat.le_of_ble_eq_true rfl) (go_Z_up w _) rfl rfl ?_
  cases h
  exact go_iret dX12_claimsOf_50 rfl hK
theorem ctX12_claimsOf {w : go_Wd} {tx : Nat} {μ : PM} {a0 : Int32} {a1 : Int32} {r : Int32} {μ1 : PM}  (h : fX12_claimsOf μ a0 a1 = some (r, μ1)) : Ct w 6 0 0 mtX12_claimsOf [.ref 401, .int a0, .int a1] (go_mk tx μ) (fun r' M' => r' = some (.int r) ∧ M' = go_mk tx μ1) :=
  go_entry rfl (by decide) (Nat.le_of_ble_eq_true rfl) (cmX12_claimsOf w tx _ μ a0 a1 _ h ⟨rfl, rfl⟩)
def jjX12_write_71 (μ : PM) (a0 : Int32) (a1 : Int32) (a2 : Int32)   : Option (PM) :=
  go_chk (1762 + (μ.1 402 11)) 1792 <| go_let (pm_wi μ 402 ((1762 + (μ.1 402 11)) : Int32).toNatClampNeg (((((((μ.1 402 7) * 6) + a0) * 3) + a1) * 10) + a2)) fun μ1 => go_let (pm_wi μ1 402 11 ((μ1.1 402 11) + 1)) fun μ3 => some (μ3)
def lbX12_write_23 (a0 : Int32) (a1 : Int32) (a2 : Int32)  (v4 : Int32) (μ : PM) : Option ((Int32 × PM) ⊕ ((PM) ⊕ (PM))) :=
  (if 30 ≤ v4 then some (.inr (.inl μ)) else go_chk (1762 + v4) 1792 <| go_chk ((1762 + v4) - 1) 1792 <| go_let (pm_wi μ 402 (((1762 + v4) - 1) : Int32).toNatClampNeg (μ.1 402 ((1762 + v4) : Int32).toNatClampNeg)) fun μ5 => some (.inl ((v4 + 1), μ5)))
def fX12_write (μ : PM) (a0 : Int32) (a1 : Int32) (a2 : Int32) : Option (PM) :=
  (if (μ.1 401 23) = 0 then some (μ) else (if (μ.1 402 11) = 30 then ((lp (fun s => lbX12_write_23 a0 a1 a2 s.1 s.2) go_fuel (1, μ)).bind fun ρ7 => go_cs ρ7 (fun e8 => go_let (pm_wi e8 402 11 ((e8.1 402 11) - 1)) fun μ9 => jjX12_write_71 μ9 a0 a1 a2) (fun y => some y)) else jjX12_write_71 μ a0 a1 a2))
def ggX12_write_23 (w : go_Wd) (tx : Nat) (Q : Option Value → go_M → Prop) (a0 : Int32) (a1 : Int32) (a2 : Int32)  (s : Int32 × PM) : Prop := Go w 0 0 0 mtX12_write 23 [(0, .ref 401), (1, .int a0), (2, .int a1), (3, .int a2), (4, .int s.1)] [] (go_mk tx s.2) (go_Z w Q)
def eeX12_write_23 (w : go_Wd) (tx : Nat) (Q : Option Value → go_M → Prop) (a0 : Int32) (a1 : Int32) (a2 : Int32)  : (PM) ⊕ (PM) → Prop
  | .inl e => Go w 0 0 0 mtX12_write 60 [(0, .ref 401), (1, .int a0), (2, .int a1), (3, .int a2)] [] (go_mk tx e) (go_Z w Q)
  | .inr y => Q none (go_mk tx y)
set_option maxRecDepth 20000 in
set_option maxHeartbeats 4000000 in
theorem jqX12_write_71 (w : go_Wd) (tx : Nat) (Q : Option Value → go_M → Prop) (μ : PM) (a0 : Int32) (a1 : Int32) (a2 : Int32)     (out : PM) (h : jjX12_write_71 μ a0 a1 a2   = some out) (hK : Q none (go_mk tx out)) : Go w 0 0 0 mtX12_write 71 [(0, .ref 401), (1, .int a0), (2, .int a1), (3, .int a2)] [] (go_mk tx μ) (go_Z w Q) := by
  unfold jjX12_write_71 at h
  refine go_aload_n dX12_write_71 0 rfl ?_
  refine pp_getR dX12_write_72 ff_X12_7 (Or.inr ⟨_, rfl⟩) sh_401 rf_401_0 ?_
  refine go_sipush (v := 1762) dX12_write_75 (by decide) ?_
  refine go_aload_n dX12_write_78 0 rfl ?_
  refine pp_getR dX12_write_79 ff_X12_7 (Or.inr ⟨_, rfl⟩) sh_401 rf_401_0 ?_
  refine go_bipush (v := 11) dX12_write_82 (by decide) ?_
  refine pp_ildc (q := 11) dX12_write_84 sh_402 (by decide) ?_
  refine go_iadd dX12_write_85 ?_
  refine go_aload_n dX12_write_86 0 rfl ?_
  refine pp_getR dX12_write_87 ff_X12_7 (Or.inr ⟨_, rfl⟩) sh_401 rf_401_0 ?_
  refine go_bipush (v := 7) dX12_write_90 (by decide) ?_
  refine pp_ildc (q := 7) dX12_write_92 sh_402 (by decide) ?_
  refine go_bipush (v := 6) dX12_write_93 (by decide) ?_
  refine go_imul dX12_write_95 ?_
  refine go_iload_n dX12_write_96 1 rfl ?_
  refine go_iadd dX12_write_97 ?_
  refine go_iconst (v := 3) dX12_write_98 (by decide) ?_
  refine go_imul dX12_write_99 ?_
  refine go_iload_n dX12_write_100 2 rfl ?_
  refine go_iadd dX12_write_101 ?_
  refine go_bipush (v := 10) dX12_write_102 (by decide) ?_
  refine go_imul dX12_write_104 ?_
  refine go_iload_n dX12_write_105 3 rfl ?_
  refine go_iadd dX12_write_106 ?_
  obtain ⟨hz2, h⟩ := go_chk_e h
  obtain ⟨μ1, hμ1, h⟩ := go_let_e h
  refine pp_ist dX12_write_107 sh_402 hz2 hμ1 ?_
  refine go_aload_n dX12_write_108 0 rfl ?_
  refine pp_getR dX12_write_109 ff_X12_7 (Or.inr ⟨_, rfl⟩) sh_401 rf_401_0 ?_
  refine go_bipush (v := 11) dX12_write_112 (by decide) ?_
  refine go_dup2 dX12_write_114 rfl rfl ?_
  refine pp_ildc (q := 11) dX12_write_115 sh_402 (by decide) ?_
  refine go_iconst (v := 1) dX12_write_116 (by decide) ?_
  refine go_iadd dX12_write_117 ?_
  obtain ⟨μ3, hμ3, h⟩ := go_let_e h
  refine pp_istc (q := 11) dX12_write_118 sh_402 (by decide) hμ3 ?_
  cases h
  exact go_vret dX12_write_119 rfl hK
set_option maxRecDepth 20000 in
set_option maxHeartbeats 4000000 in
theorem lqX12_write_23 (w : go_Wd) (tx : Nat) (Q : Option Value → go_M → Prop) (a0 : Int32) (a1 : Int32) (a2 : Int32)   (v4 : Int32) (μ : PM) (out : (Int32 × PM) ⊕ ((PM) ⊕ (PM))) (h : lbX12_write_23 a0 a1 a2  v4 μ = some out) (hK : go_out (ggX12_write_23 w tx Q a0 a1 a2 ) (eeX12_write_23 w tx Q a0 a1 a2 ) out) : ggX12_write_23 w tx Q a0 a1 a2  (v4, μ) := by
  unfold lbX12_write_23 at h
  show Go w 0 0 0 mtX12_write 23 [(0, .ref 401), (1, .int a0), (2, .int a1), (3, .int a2), (4, .int v4)] [] (go_mk tx μ) (go_Z w Q)
  refine go_iload dX12_write_23 4 rfl ?_
  refine go_bipush (v := 30) dX12_write_25 (by decide) ?_
  refine go_icmp_ge 60 dX12_write_27 (by decide) (fun hc => ?_) (fun hc => ?_)
  · have h := go_ifp hc h
    cases h
    have hK : Go w 0 0 0 mtX12_write 60 [(0, .ref 401), (1, .int a0), (2, .int a1), (3, .int a2)] [] (go_mk tx μ) (go_Z w Q) := hK
    exact go_pick [0, 1, 2, 3] rfl hK
  · have h := go_ifn hc h
    refine go_aload_n dX12_write_30 0 rfl ?_
    refine pp_getR dX12_write_31 ff_X12_7 (Or.inr ⟨_, rfl⟩) sh_401 rf_401_0 ?_
    refine go_sipush (v := 1762) dX12_write_34 (by decide) ?_
    refine go_iload dX12_write_37 4 rfl ?_
    refine go_iadd dX12_write_39 ?_
    refine go_iconst (v := 1) dX12_write_40 (by decide) ?_
    refine go_isub dX12_write_41 ?_
    refine go_aload_n dX12_write_42 0 rfl ?_
    refine pp_getR dX12_write_43 ff_X12_7 (Or.inr ⟨_, rfl⟩) sh_401 rf_401_0 ?_
    refine go_sipush (v := 1762) dX12_write_46 (by decide) ?_
    refine go_iload dX12_write_49 4 rfl ?_
    refine go_iadd dX12_write_51 ?_
    obtain ⟨hz4, h⟩ := go_chk_e h
    refine pp_ild dX12_write_52 sh_402 hz4 ?_
    obtain ⟨hz6, h⟩ := go_chk_e h
    obtain ⟨μ5, hμ5, h⟩ := go_let_e h
    refine pp_ist dX12_write_53 sh_402 hz6 hμ5 ?_
    refine go_iinc (v := (v4 + 1)) dX12_write_54 4 rfl rfl (by decide) rfl ?_
    show Go w 0 0 0 mtX12_write 57 [(4, .int (v4 + 1)), (0, .ref 401), (1, .int a0), (2, .int a1), (3, .int a2)] [] (go_mk tx μ5) (go_Z w Q)
    refine go_goto 23 dX12_write_57 (by decide) ?_
    cases h
    have hK : Go w 0 0 0 mtX12_write 23 [(0, .ref 401), (1, .int a0), (2, .int a1), (3, .int a2), (4, .int (v4 + 1))] [] (go_mk tx μ5) (go_Z w Q) := hK
    exact go_pick [1, 2, 3, 4, 0] rfl hK
set_option maxRecDepth 20000 in
set_option maxHeartbeats 4000000 in
theorem cmX12_write (w : go_Wd) (tx : Nat) (Q : Option Value → go_M → Prop) (μ : PM) (a0 : Int32) (a1 : Int32) (a2 : Int32) (out : PM) (h : fX12_write μ a0 a1 a2 = some out) (hK : Q none (go_mk tx out)) : Go w 0 0 0 mtX12_write 0 [(0, .ref 401), (1, .int a0), (2, .int a1), (3, .int a2)] [] (go_mk tx μ) (go_Z w Q) := by
  unfold fX12_write at h
  refine go_aload_n dX12_write_0 0 rfl ?_
  refine pp_getI dX12_write_1 ff_X12_43 (by decide) sh_401 ?_
  refine go_if_ne 8 dX12_write_4 (by decide) (fun hc => ?_) (fun hc => ?_)
  · have h := go_ifn hc h
    refine go_aload_n dX12_write_8 0 rfl ?_
    refine pp_getR dX12_write_9 ff_X12_7 (Or.inr ⟨_, rfl⟩) sh_401 rf_401_0 ?_
    refine go_bipush (v := 11) dX12_write_12 (by decide) ?_
    refine pp_ildc (q := 11) dX12_write_14 sh_402 (by decide) ?_
    refine go_bipush (v := 30) dX12_write_15 (by decide) ?_
    refine go_icmp_ne 71 dX12_write_17 (by decide) (fun hc => ?_) (fun hc => ?_)
    · have h := go_ifn hc h
      refine go_pick [0, 1, 2, 3] rfl ?_
      exact jqX12_write_71 w tx Q μ a0 a1 a2     _ h hK
    · have h := go_ifp hc h
      refine go_iconst (v := 1) dX12_write_20 (by decide) ?_
      refine go_istore dX12_write_21 (by decide) rfl ?_
      show Go w 0 0 0 mtX12_write 23 [(4, .int 1), (0, .ref 401), (1, .int a0), (2, .int a1), (3, .int a2)] [] (go_mk tx μ) (go_Z w Q)
      obtain ⟨ρ7, hρ7, h⟩ := go_bind h
      refine go_pick [1, 2, 3, 4, 0] rfl ?_
      refine go_lp (G := ggX12_write_23 w tx Q a0 a1 a2 ) (E := eeX12_write_23 w tx Q a0 a1 a2 ) (fun s out h hK => lqX12_write_23 w tx Q a0 a1 a2   s.1 s.2 out h hK) go_fuel (1, μ) ρ7 hρ7 ?_
      rcases ρ7 with e8 | y
      · have h := go_csl h
        show Go w 0 0 0 mtX12_write 60 [(0, .ref 401), (1, .int a0), (2, .int a1), (3, .int a2)] [] (go_mk tx e8) (go_Z w Q)
        refine go_aload_n dX12_write_60 0 rfl ?_
        refine pp_getR dX12_write_61 ff_X12_7 (Or.inr ⟨_, rfl⟩) sh_401 rf_401_0 ?_
        refine go_bipush (v := 11) dX12_write_64 (by decide) ?_
        refine go_dup2 dX12_write_66 rfl rfl ?_
        refine pp_ildc (q := 11) dX12_write_67 sh_402 (by decide) ?_
        refine go_iconst (v := 1) dX12_write_68 (by decide) ?_
        refine go_isub dX12_write_69 ?_
        obtain ⟨μ9, hμ9, h⟩ := go_let_e h
        refine pp_istc (q := 11) dX12_write_70 sh_402 (by decide) hμ9 ?_
        refine go_pick [0, 1, 2, 3] rfl ?_
        exact jqX12_write_71 w tx Q μ9 a0 a1 a2     _ h hK
      · have h := go_csr h
        cases h
        exact hK
  · have h := go_ifp hc h
    cases h
    exact go_vret dX12_write_7 rfl hK
theorem ctX12_write {w : go_Wd} {tx : Nat} {μ : PM} {a0 : Int32} {a1 : Int32} {a2 : Int32} {μ1 : PM}  (h : fX12_write μ a0 a1 a2 = some μ1) : Ct w 0 0 0 mtX12_write [.ref 401, .int a0, .int a1, .int a2] (go_mk tx μ) (fun r' M' => r' = none ∧ M' = go_mk tx μ1) :=
  go_entry rfl (by decide) (Nat.le_of_ble_eq_true rfl) (cmX12_write w tx _ μ a0 a1 a2 _ h ⟨rfl, rfl⟩)
def fX12_anew (μ : PM)  : PM :=
  go_let (pm_wi μ 402 8 (((jreml ((((μ.1 402 8) : Int32).toInt64 * 563) + 433) 30773) : Int64).toInt32)) fun μ1 => μ1
set_option maxRecDepth 20000 in
set_option maxHeartbeats 4000000 in
theorem cmX12_anew (w : go_Wd) (tx : Nat) (Q : Option Value → go_M → Prop) (μ : PM)  (out : PM) (h : fX12_anew μ = out) (hK : Q none (go_mk tx out)) : Go w 0 0 0 mtX12_anew 0 [(0, .ref 401)] [] (go_mk tx μ) (go_Z w Q) := by
  unfold fX12_anew at h
  refine go_aload_n dX12_anew_0 0 rfl ?_
  refine pp_getR dX12_anew_1 ff_X12_7 (Or.inr ⟨_, rfl⟩) sh_401 rf_401_0 ?_
  refine go_bipush (v := 8) dX12_anew_4 (by decide) ?_
  refine go_aload_n dX12_anew_6 0 rfl ?_
  refine pp_getR dX12_anew_7 ff_X12_7 (Or.inr ⟨_, rfl⟩) sh_401 rf_401_0 ?_
  refine go_bipush (v := 8) dX12_anew_10 (by decide) ?_
  refine pp_ildc (q := 8) dX12_anew_12 sh_402 (by decide) ?_
  refine go_i2l dX12_anew_13 ?_
  refine go_ldc2 dX12_anew_14 kl_X12_315 ?_
  refine go_lmul dX12_anew_17 ?_
  refine go_ldc2 dX12_anew_18 kl_X12_317 ?_
  refine go_ladd dX12_anew_21 ?_
  refine go_ldc2 dX12_anew_22 kl_X12_319 ?_
  refine go_lremJ dX12_anew_25 (by decide) ?_
  refine go_l2i dX12_anew_26 ?_
  obtain ⟨μ1, hμ1, h⟩ := go_let_e h
  refine pp_istc (q := 8) dX12_anew_27 sh_402 (by decide) hμ1 ?_
  subst h
  exact go_vret dX12_anew_28 rfl hK
theorem ctX12_anew {w : go_Wd} {tx : Nat} {μ : PM}  {μ1 : PM}  (h : fX12_anew μ = μ1) : Ct w 0 0 0 mtX12_anew [.ref 401] (go_mk tx μ) (fun r' M' => r' = none ∧ M' = go_mk tx μ1) :=
  go_entry rfl (by decide) (Nat.le_of_ble_eq_true rfl) (cmX12_anew w tx _ μ  _ h ⟨rfl, rfl⟩)
def fX12_drawnBy (μ : PM) (a0 : Int32) : Option (Int32 × PM) :=
  go_nz a0 <| go_let ((jrem (μ.1 402 8) a0)) fun x2 => go_let (fX12_anew μ) fun q3 => some ((x2, q3))
set_option maxRecDepth 20000 in
set_option maxHeartbeats 4000000 in
theorem cmX12_drawnBy (w : go_Wd) (tx : Nat) (Q : Option Value → go_M → Prop) (μ : PM) (a0 : Int32) (out : Int32 × PM) (h : fX12_drawnBy μ a0 = some out) (hK : Q (some (.int out.1)) (go_mk tx out.2)) : Go w 1 0 0 mtX12_drawnBy 0 [(0, .ref 401), (1, .int a0)] [] (go_mk tx μ) (go_Z w Q) := by
  unfold fX12_drawnBy at h
  refine go_aload_n dX12_drawnBy_0 0 rfl ?_
  refine pp_getR dX12_drawnBy_1 ff_X12_7 (Or.inr ⟨_, rfl⟩) sh_401 rf_401_0 ?_
  refine go_bipush (v := 8) dX12_drawnBy_4 (by decide) ?_
  refine pp_ildc (q := 8) dX12_drawnBy_6 sh_402 (by decide) ?_
  refine go_iload_n dX12_drawnBy_7 1 rfl ?_
  obtain ⟨hz1, h⟩ := go_nz_e h
  refine go_iremJ dX12_drawnBy_8 hz1 ?_
  obtain ⟨x2, hx2, h⟩ := go_let_e h
  refine go_top hx2 ?_
  refine go_istore_n dX12_drawnBy_9 (by decide) rfl ?_
  show Go w 1 0 0 mtX12_drawnBy 10 [(2, .int x2), (0, .ref 401), (1, .int a0)] [] (go_mk tx μ) (go_Z w Q)
  refine go_aload_n dX12_drawnBy_10 1 rfl ?_
  obtain ⟨q3, hq3, h⟩ := go_let_e h
  refine pp_callV (as := []) (st := []) (rv := none) (μ1 := q3) (st1 := []) dX12_drawnBy_11 ll_X12_312 sh_401 (by decide) rfl (ctX12_anew  hq3.symm) rfl (Nat.le_of_ble_eq_true rfl) (Nat.le_of_ble_eq_true rfl) (go_Z_up w _) rfl rfl ?_
  refine go_iload_n dX12_drawnBy_14 0 rfl ?_
  cases h
  exact go_iret dX12_drawnBy_15 rfl hK
theorem ctX12_drawnBy {w : go_Wd} {tx : Nat} {μ : PM} {a0 : Int32} {r : Int32} {μ1 : PM}  (h : fX12_drawnBy μ a0 = some (r, μ1)) : Ct w 1 0 0 mtX12_drawnBy [.ref 401, .int a0] (go_mk tx μ) (fun r' M' => r' = some (.int r) ∧ M' = go_mk tx μ1) :=
  go_entry rfl (by decide) (Nat.le_of_ble_eq_true rfl) (cmX12_drawnBy w tx _ μ a0 _ h ⟨rfl, rfl⟩)
def fX12_breakBy (μ : PM) (a0 : Int32) : Option (PM) :=
  (fX12_get μ a0 0).bind fun q1 => (if (fX12_has (μ.1 402 10) q1) = 0 then some (μ) else (fX12_get μ a0 1).bind fun q2 => (if q2 = 1 then some (μ) else (fX12_breaksOf μ a0 q1).bind fun q3 => (fX12_drawnBy q3.2 10).bind fun q4 => (if q4.1 < q3.1 then (fX12_get q4.2 a0 1).bind fun q5 => (fX12_put q4.2 a0 1 ((q5 + 1) / 2)).bind fun q6 => (fX12_write q6 a0 2 q1).bind fun q7 => some (q7) else some (q4.2))))
set_option maxRecDepth 20000 in
set_option maxHeartbeats 4000000 in
theorem cmX12_breakBy (w : go_Wd) (tx : Nat) (Q : Option Value → go_M → Prop) (μ : PM) (a0 : Int32) (out : PM) (h : fX12_breakBy μ a0 = some out) (hK : Q none (go_mk tx out)) : Go w 7 0 0 mtX12_breakBy 0 [(0, .ref 401), (1, .int a0)] [] (go_mk tx μ) (go_Z w Q) := by
  unfold fX12_breakBy at h
  refine go_aload_n dX12_breakBy_0 0 rfl ?_
  refine go_iload_n dX12_breakBy_1 1 rfl ?_
  refine go_iconst (v := 0) dX12_breakBy_2 (by decide) ?_
  obtain ⟨q1, hq1, h⟩ := go_bind h
  refine pp_callV (as := [.int a0, .int 0]) (st := []) (rv := (some (.int q1))) (μ1 := μ) (st1 := [.int q1]) dX12_breakBy_3 ll_X12_264 sh_401 (by decide) rfl (ctX12_get  hq1) rfl (Nat.le_of_ble_eq_true rfl) (Nat.le_of_ble_eq_true rfl) (go_Z_up w _) rfl rfl ?_
  refine go_istore_n dX12_breakBy_6 (by decide) rfl ?_
  show Go w 7 0 0 mtX12_breakBy 7 [(2, .int q1), (0, .ref 401), (1, .int a0)] [] (go_mk tx μ) (go_Z w Q)
  refine go_aload_n dX12_breakBy_7 1 rfl ?_
  refine pp_getR dX12_breakBy_8 ff_X12_7 (Or.inr ⟨_, rfl⟩) sh_401 rf_401_0 ?_
  refine go_bipush (v := 10) dX12_breakBy_11 (by decide) ?_
  refine pp_ildc (q := 10) dX12_breakBy_13 sh_402 (by decide) ?_
  refine go_iload_n dX12_breakBy_14 0 rfl ?_
  refine pp_callS (as := [.int (μ.1 402 10), .int q1]) (st := []) (rv := (some (.int (fX12_has (μ.1 402 10) q1)))) (μ1 := μ) (st1 := [.int (fX12_has (μ.1 402 10) q1)]) dX12_breakBy_15 ll_X12_239 (ctX12_has  rfl) rfl (Nat.le_of_ble_eq_true rfl) (Nat.le_of_ble_eq_true rfl) (go_Z_up w _) rfl rfl ?_
  refine go_if_eq 31 dX12_breakBy_18 (by decide) (fun hc => ?_) (fun hc => ?_)
  · have h := go_ifp hc h
    cases h
    exact go_vret dX12_breakBy_31 rfl hK
  · have h := go_ifn hc h
    refine go_aload_n dX12_breakBy_21 1 rfl ?_
    refine go_iload_n dX12_breakBy_22 2 rfl ?_
    refine go_iconst (v := 1) dX12_breakBy_23 (by decide) ?_
    obtain ⟨q2, hq2, h⟩ := go_bind h
    refine pp_callV (as := [.int a0, .int 1]) (st := []) (rv := (some (.int q2))) (μ1 := μ) (st1 := [.int q2]) dX12_breakBy_24 ll_X12_264 sh_401 (by decide) rfl (ctX12_get  hq2) rfl (Nat.le_of_ble_eq_true rfl) (Nat.le_of_ble_eq_true rfl) (go_Z_up w _) rfl rfl ?_
    refine go_iconst (v := 1) dX12_breakBy_27 (by decide) ?_
    refine go_icmp_ne 32 dX12_breakBy_28 (by decide) (fun hc => ?_) (fun hc => ?_)
    · have h := go_ifn hc h
      refine go_aload_n dX12_breakBy_32 1 rfl ?_
      refine go_iload_n dX12_breakBy_33 2 rfl ?_
      refine go_iload_n dX12_breakBy_34 0 rfl ?_
      obtain ⟨q3, hq3, h⟩ := go_bind h
      refine pp_callV (as := [.int a0, .int q1]) (st := []) (rv := (some (.int q3.1))) (μ1 := q3.2) (st1 := [.int q3.1]) dX12_breakBy_35 ll_X12_321 sh_401 (by decide) rfl (ctX12_breaksOf  hq3) rfl (Nat.le_of_ble_eq_true rfl) (Nat.le_of_ble_eq_true rfl) (go_Z_up w _) rfl rfl ?_
      refine go_istore_n dX12_breakBy_38 (by decide) rfl ?_
      show Go w 7 0 0 mtX12_breakBy 39 [(3, .int q3.1), (2, .int q1), (0, .ref 401), (1, .int a0)] [] (go_mk tx q3.2) (go_Z w Q)
      refine go_aload_n dX12_breakBy_39 2 rfl ?_
      refine go_bipush (v := 10) dX12_breakBy_40 (by decide) ?_
      obtain ⟨q4, hq4, h⟩ := go_bind h
      refine pp_callV (as := [.int 10]) (st := []) (rv := (some (.int q4.1))) (μ1 := q4.2) (st1 := [.int q4.1]) dX12_breakBy_42 ll_X12_324 sh_401 (by decide) rfl (ctX12_drawnBy  hq4) rfl (Nat.le_of_ble_eq_true rfl) (Nat.le_of_ble_eq_true rfl) (go_Z_up w _) rfl rfl ?_
      refine go_iload_n dX12_breakBy_45 0 rfl ?_
      refine go_icmp_lt 50 dX12_breakBy_46 (by decide) (fun hc => ?_) (fun hc => ?_)
      · have h := go_ifp hc h
        refine go_aload_n dX12_breakBy_50 2 rfl ?_
        refine go_iload_n dX12_breakBy_51 3 rfl ?_
        refine go_iconst (v := 1) dX12_breakBy_52 (by decide) ?_
        refine go_aload_n dX12_breakBy_53 2 rfl ?_
        refine go_iload_n dX12_breakBy_54 3 rfl ?_
        refine go_iconst (v := 1) dX12_breakBy_55 (by decide) ?_
        obtain ⟨q5, hq5, h⟩ := go_bind h
        refine pp_callV (as := [.int a0, .int 1]) (st := [.int 1, .int a0, .ref 401]) (rv := (some (.int q5))) (μ1 := q4.2) (st1 := [.int q5, .int 1, .int a0, .ref 401]) dX12_breakBy_56 ll_X12_264 sh_401 (by decide) rfl (ctX12_get  hq5) rfl (Nat.le_of_ble_eq_true rfl) (Nat.le_of_ble_eq_true rfl) (go_Z_up w _) rfl rfl ?_
        refine go_iconst (v := 1) dX12_breakBy_59 (by decide) ?_
        refine go_iadd dX12_breakBy_60 ?_
        refine go_iconst (v := 2) dX12_breakBy_61 (by decide) ?_
        refine go_idiv dX12_breakBy_62 (by decide) ?_
        obtain ⟨q6, hq6, h⟩ := go_bind h
        refine pp_callV (as := [.int a0, .int 1, .int ((q5 + 1) / 2)]) (st := []) (rv := none) (μ1 := q6) (st1 := []) dX12_breakBy_63 ll_X12_76 sh_401 (by decide) rfl (ctX12_put  hq6) rfl (Nat.le_of_ble_eq_true rfl) (Nat.le_of_ble_eq_true rfl) (go_Z_up w _) rfl rfl ?_
        refine go_aload_n dX12_breakBy_66 2 rfl ?_
        refine go_iload_n dX12_breakBy_67 3 rfl ?_
        refine go_iconst (v := 2) dX12_breakBy_68 (by decide) ?_
        refine go_iload_n dX12_breakBy_69 1 rfl ?_
        obtain ⟨q7, hq7, h⟩ := go_bind h
        refine pp_callV (as := [.int a0, .int 2, .int q1]) (st := []) (rv := none) (μ1 := q7) (st1 := []) dX12_breakBy_70 ll_X12_327 sh_401 (by decide) rfl (ctX12_write  hq7) rfl (Nat.le_of_ble_eq_true rfl) (Nat.le_of_ble_eq_true rfl) (go_Z_up w _) rfl rfl ?_
        cases h
        exact go_vret dX12_breakBy_73 rfl hK
      · have h := go_ifn hc h
        cases h
        exact go_vret dX12_breakBy_49 rfl hK
    · have h := go_ifp hc h
      cases h
      exact go_vret dX12_breakBy_31 rfl hK
theorem ctX12_breakBy {w : go_Wd} {tx : Nat} {μ : PM} {a0 : Int32} {μ1 : PM}  (h : fX12_breakBy μ a0 = some μ1) : Ct w 7 0 0 mtX12_breakBy [.ref 401, .int a0] (go_mk tx μ) (fun r' M' => r' = none ∧ M' = go_mk tx μ1) :=
  go_entry rfl (by decide) (Nat.le_of_ble_eq_true rfl) (cmX12_breakBy w tx _ μ a0 _ h ⟨rfl, rfl⟩)
def lbX12_claimBy_2 (a0 : Int32)  (v2 : Int32) (μ : PM) : Option ((Int32 × PM) ⊕ ((Int32 × PM) ⊕ (PM))) :=
  (if (μ.1 402 1) ≤ v2 then some (.inr (.inr (μ))) else go_chk (24 + v2) 1792 <| (fX12_get μ a0 0).bind fun q2 => (if (μ.1 402 ((24 + v2) : Int32).toNatClampNeg) = q2 then go_chk (42 + v2) 1792 <| (fX12_get μ a0 1).bind fun q4 => (if (μ.1 402 ((42 + v2) : Int32).toNatClampNeg) < q4 then some (.inl ((v2 + 1), μ)) else (fX12_claimsOf μ a0 v2).bind fun q5 => (if 0 < q5.1 then some (.inr (.inl (v2, q5.2))) else some (.inl ((v2 + 1), q5.2)))) else some (.inl ((v2 + 1), μ))))
def fX12_claimBy (μ : PM) (a0 : Int32) : Option (PM) :=
  ((lp (fun s => lbX12_claimBy_2 a0 s.1 s.2) go_fuel (0, μ)).bind fun ρ6 => go_cs ρ6 (fun e7 => (fX12_put e7.2 a0 0 (20 + e7.1)).bind fun q8 => go_let (pm_wi q8 401 24 ((q8.1 401 24) + 1)) fun μ9 => (fX12_write μ9 a0 0 e7.1).bind fun q10 => some (q10)) (fun y => some y))
def ggX12_claimBy_2 (w : go_Wd) (tx : Nat) (Q : Option Value → go_M → Prop) (a0 : Int32)  (s : Int32 × PM) : Prop := Go w 7 0 0 mtX12_claimBy 2 [(0, .ref 401), (1, .int a0), (2, .int s.1)] [] (go_mk tx s.2) (go_Z w Q)
def eeX12_claimBy_2 (w : go_Wd) (tx : Nat) (Q : Option Value → go_M → Prop) (a0 : Int32)  : (Int32 × PM) ⊕ (PM) → Prop
  | .inl e => Go w 7 0 0 mtX12_claimBy 60 [(0, .ref 401), (1, .int a0), (2, .int e.1)] [] (go_mk tx e.2) (go_Z w Q)
  | .inr y => Q none (go_mk tx y)
set_option maxRecDepth 20000 in
set_option maxHeartbeats 4000000 in
theorem lqX12_claimBy_2 (w : go_Wd) (tx : Nat) (Q : Option Value → go_M → Prop) (a0 : Int32)   (v2 : Int32) (μ : PM) (out : (Int32 × PM) ⊕ ((Int32 × PM) ⊕ (PM))) (h : lbX12_claimBy_2 a0  v2 μ = some out) (hK : go_out (ggX12_claimBy_2 w tx Q a0 ) (eeX12_claimBy_2 w tx Q a0 ) out) : ggX12_claimBy_2 w tx Q a0  (v2, μ) := by
  unfold lbX12_claimBy_2 at h
  show Go w 7 0 0 mtX12_claimBy 2 [(0, .ref 401), (1, .int a0), (2, .int v2)] [] (go_mk tx μ) (go_Z w Q)
  refine go_iload_n dX12_claimBy_2 2 rfl ?_
  refine go_aload_n dX12_claimBy_3 0 rfl ?_
  refine pp_getR dX12_claimBy_4 ff_X12_7 (Or.inr ⟨_, rfl⟩) sh_401 rf_401_0 ?_
  refine go_iconst (v := 1) dX12_claimBy_7 (by decide) ?_
  refine pp_ildc (q := 1) dX12_claimBy_8 sh_402 (by decide) ?_
  refine go_icmp_ge 94 dX12_claimBy_9 (by decide) (fun hc => ?_) (fun hc => ?_)
  · have h := go_ifp hc h
    cases h
    exact go_vret dX12_claimBy_94 rfl hK
  · have h := go_ifn hc h
    refine go_aload_n dX12_claimBy_12 0 rfl ?_
    refine pp_getR dX12_claimBy_13 ff_X12_7 (Or.inr ⟨_, rfl⟩) sh_401 rf_401_0 ?_
    refine go_bipush (v := 24) dX12_claimBy_16 (by decide) ?_
    refine go_iload_n dX12_claimBy_18 2 rfl ?_
    refine go_iadd dX12_claimBy_19 ?_
    obtain ⟨hz1, h⟩ := go_chk_e h
    refine pp_ild dX12_claimBy_20 sh_402 hz1 ?_
    refine go_aload_n dX12_claimBy_21 0 rfl ?_
    refine go_iload_n dX12_claimBy_22 1 rfl ?_
    refine go_iconst (v := 0) dX12_claimBy_23 (by decide) ?_
    obtain ⟨q2, hq2, h⟩ := go_bind h
    refine pp_callV (as := [.int a0, .int 0]) (st := [.int (μ.1 402 ((24 + v2) : Int32).toNatClampNeg)]) (rv := (some (.int q2))) (μ1 := μ) (st1 := [.int q2, .int (μ.1 402 ((24 + v2) : Int32).toNatClampNeg)]) dX12_claimBy_24 ll_X12_264 sh_401 (by decide) rfl (ctX12_get  hq2) rfl (Nat.le_of_ble_eq_true rfl) (Nat.le_of_ble_eq_true rfl) (go_Z_up w _) rfl rfl ?_
    refine go_icmp_ne 88 dX12_claimBy_27 (by decide) (fun hc => ?_) (fun hc => ?_)
    · have h := go_ifn hc h
      refine go_iinc (v := (v2 + 1)) dX12_claimBy_88 2 rfl rfl (by decide) rfl ?_
      show Go w 7 0 0 mtX12_claimBy 91 [(2, .int (v2 + 1)), (0, .ref 401), (1, .int a0)] [] (go_mk tx μ) (go_Z w Q)
      refine go_goto 2 dX12_claimBy_91 (by decide) ?_
      cases h
      have hK : Go w 7 0 0 mtX12_claimBy 2 [(0, .ref 401), (1, .int a0), (2, .int (v2 + 1))] [] (go_mk tx μ) (go_Z w Q) := hK
      exact go_pick [1, 2, 0] rfl hK
    · have h := go_ifp hc h
      refine go_aload_n dX12_claimBy_30 0 rfl ?_
      refine pp_getR dX12_claimBy_31 ff_X12_7 (Or.inr ⟨_, rfl⟩) sh_401 rf_401_0 ?_
      refine go_bipush (v := 42) dX12_claimBy_34 (by decide) ?_
      refine go_iload_n dX12_claimBy_36 2 rfl ?_
      refine go_iadd dX12_claimBy_37 ?_
      obtain ⟨hz3, h⟩ := go_chk_e h
      refine pp_ild dX12_claimBy_38 sh_402 hz3 ?_
      refine go_aload_n dX12_claimBy_39 0 rfl ?_
      refine go_iload_n dX12_claimBy_40 1 rfl ?_
      refine go_iconst (v := 1) dX12_claimBy_41 (by decide) ?_
      obtain ⟨q4, hq4, h⟩ := go_bind h
      refine pp_callV (as := [.int a0, .int 1]) (st := [.int (μ.1 402 ((42 + v2) : Int32).toNatClampNeg)]) (rv := (some (.int q4))) (μ1 := μ) (st1 := [.int q4, .int (μ.1 402 ((42 + v2) : Int32).toNatClampNeg)]) dX12_claimBy_42 ll_X12_264 sh_401 (by decide) rfl (ctX12_get  hq4) rfl (Nat.le_of_ble_eq_true rfl) (Nat.le_of_ble_eq_true rfl) (go_Z_up w _) rfl rfl ?_
      refine go_icmp_lt 88 dX12_claimBy_45 (by decide) (fun hc => ?_) (fun hc => ?_)
      · have h := go_ifp hc h
        refine go_iinc (v := (v2 + 1)) dX12_claimBy_88 2 rfl rfl (by decide) rfl ?_
        show Go w 7 0 0 mtX12_claimBy 91 [(2, .int (v2 + 1)), (0, .ref 401), (1, .int a0)] [] (go_mk tx μ) (go_Z w Q)
        refine go_goto 2 dX12_claimBy_91 (by decide) ?_
        cases h
        have hK : Go w 7 0 0 mtX12_claimBy 2 [(0, .ref 401), (1, .int a0), (2, .int (v2 + 1))] [] (go_mk tx μ) (go_Z w Q) := hK
        exact go_pick [1, 2, 0] rfl hK
      · have h := go_ifn hc h
        refine go_aload_n dX12_claimBy_48 0 rfl ?_
        refine go_iload_n dX12_claimBy_49 1 rfl ?_
        refine go_iload_n dX12_claimBy_50 2 rfl ?_
        obtain ⟨q5, hq5, h⟩ := go_bind h
        refine pp_callV (as := [.int a0, .int v2]) (st := []) (rv := (some (.int q5.1))) (μ1 := q5.2) (st1 := [.int q5.1]) dX12_claimBy_51 ll_X12_330 sh_401 (by decide) rfl (ctX12_claimsOf  hq5) rfl (Nat.le_of_ble_eq_true rfl) (Nat.le_of_ble_eq_true rfl) (go_Z_up w _) rfl rfl ?_
        refine go_if_gt 60 dX12_claimBy_54 (by decide) (fun hc => ?_) (fun hc => ?_)
        · have h := go_ifp hc h
          cases h
          have hK : Go w 7 0 0 mtX12_claimBy 60 [(0, .ref 401), (1, .int a0), (2, .int v2)] [] (go_mk tx q5.2) (go_Z w Q) := hK
          exact go_pick [0, 1, 2] rfl hK
        · have h := go_ifn hc h
          refine go_goto 88 dX12_claimBy_57 (by decide) ?_
          refine go_iinc (v := (v2 + 1)) dX12_claimBy_88 2 rfl rfl (by decide) rfl ?_
          show Go w 7 0 0 mtX12_claimBy 91 [(2, .int (v2 + 1)), (0, .ref 401), (1, .int a0)] [] (go_mk tx q5.2) (go_Z w Q)
          refine go_goto 2 dX12_claimBy_91 (by decide) ?_
          cases h
          have hK : Go w 7 0 0 mtX12_claimBy 2 [(0, .ref 401), (1, .int a0), (2, .int (v2 + 1))] [] (go_mk tx q5.2) (go_Z w Q) := hK
          exact go_pick [1, 2, 0] rfl hK
set_option maxRecDepth 20000 in
set_option maxHeartbeats 4000000 in
theorem cmX12_claimBy (w : go_Wd) (tx : Nat) (Q : Option Value → go_M → Prop) (μ : PM) (a0 : Int32) (out : PM) (h : fX12_claimBy μ a0 = some out) (hK : Q none (go_mk tx out)) : Go w 7 0 0 mtX12_claimBy 0 [(0, .ref 401), (1, .int a0)] [] (go_mk tx μ) (go_Z w Q) := by
  unfold fX12_claimBy at h
  refine go_iconst (v := 0) dX12_claimBy_0 (by decide) ?_
  refine go_istore_n dX12_claimBy_1 (by decide) rfl ?_
  show Go w 7 0 0 mtX12_claimBy 2 [(2, .int 0), (0, .ref 401), (1, .int a0)] [] (go_mk tx μ) (go_Z w Q)
  obtain ⟨ρ6, hρ6, h⟩ := go_bind h
  refine go_pick [1, 2, 0] rfl ?_
  refine go_lp (G := ggX12_claimBy_2 w tx Q a0 ) (E := eeX12_claimBy_2 w tx Q a0 ) (fun s out h hK => lqX12_claimBy_2 w tx Q a0   s.1 s.2 out h hK) go_fuel (0, μ) ρ6 hρ6 ?_
  rcases ρ6 with e7 | y
  · have h := go_csl h
    show Go w 7 0 0 mtX12_claimBy 60 [(0, .ref 401), (1, .int a0), (2, .int e7.1)] [] (go_mk tx e7.2) (go_Z w Q)
    refine go_aload_n dX12_claimBy_60 0 rfl ?_
    refine go_iload_n dX12_claimBy_61 1 rfl ?_
    refine go_iconst (v := 0) dX12_claimBy_62 (by decide) ?_
    refine go_bipush (v := 20) dX12_claimBy_63 (by decide) ?_
    refine go_iload_n dX12_claimBy_65 2 rfl ?_
    refine go_iadd dX12_claimBy_66 ?_
    obtain ⟨q8, hq8, h⟩ := go_bind h
    refine pp_callV (as := [.int a0, .int 0, .int (20 + e7.1)]) (st := []) (rv := none) (μ1 := q8) (st1 := []) dX12_claimBy_67 ll_X12_76 sh_401 (by decide) rfl (ctX12_put  hq8) rfl (Nat.le_of_ble_eq_true rfl) (Nat.le_of_ble_eq_true rfl) (go_Z_up w _) rfl rfl ?_
    refine go_aload_n dX12_claimBy_70 0 rfl ?_
    refine go_dup dX12_claimBy_71 rfl ?_
    refine pp_getI dX12_claimBy_72 ff_X12_333 (by decide) sh_401 ?_
    refine go_iconst (v := 1) dX12_claimBy_75 (by decide) ?_
    refine go_iadd dX12_claimBy_76 ?_
    obtain ⟨μ9, hμ9, h⟩ := go_let_e h
    refine pp_putI dX12_claimBy_77 ff_X12_333 (Or.inl rfl) sh_401 hμ9 ?_
    refine go_aload_n dX12_claimBy_80 0 rfl ?_
    refine go_iload_n dX12_claimBy_81 1 rfl ?_
    refine go_iconst (v := 0) dX12_claimBy_82 (by decide) ?_
    refine go_iload_n dX12_claimBy_83 2 rfl ?_
    obtain ⟨q10, hq10, h⟩ := go_bind h
    refine pp_callV (as := [.int a0, .int 0, .int e7.1]) (st := []) (rv := none) (μ1 := q10) (st1 := []) dX12_claimBy_84 ll_X12_327 sh_401 (by decide) rfl (ctX12_write  hq10) rfl (Nat.le_of_ble_eq_true rfl) (Nat.le_of_ble_eq_true rfl) (go_Z_up w _) rfl rfl ?_
    cases h
    exact go_vret dX12_claimBy_87 rfl hK
  · have h := go_csr h
    cases h
    exact hK
theorem ctX12_claimBy {w : go_Wd} {tx : Nat} {μ : PM} {a0 : Int32} {μ1 : PM}  (h : fX12_claimBy μ a0 = some μ1) : Ct w 7 0 0 mtX12_claimBy [.ref 401, .int a0] (go_mk tx μ) (fun r' M' => r' = none ∧ M' = go_mk tx μ1) :=
  go_entry rfl (by decide) (Nat.le_of_ble_eq_true rfl) (cmX12_claimBy w tx _ μ a0 _ h ⟨rfl, rfl⟩)
def jjX12_goOn_99 (μ : PM) (a0 : Int32)   : Option (PM) :=
  (fX12_claimBy μ a0).bind fun q2 => some (q2)
def jjX12_goOn_76 (μ : PM) (a0 : Int32) (v3 : Int32) (s1 : Int32) (s2 : Int32) (s3 : Int32) : Option (PM) :=
  (fX12_put μ s1 s2 s3).bind fun q4 => (if v3 < 9 then (fX12_breakBy q4 a0).bind fun q5 => jjX12_goOn_99 q5 a0 else (fX12_write q4 a0 1 9).bind fun q6 => some (q6))
def jjX12_goOn_59 (μ : PM) (a0 : Int32)  (s0 : Int32) (s1 : Int32) : Option (PM) :=
  (if 9 ≤ (s0 + s1) then jjX12_goOn_76 μ a0 ((s0 + s1)) a0 0 10 else jjX12_goOn_76 μ a0 ((s0 + s1)) a0 0 ((s0 + s1)))
def jjX12_goOn_32 (μ : PM) (a0 : Int32)  (s0 : Int32) : Option (PM) :=
  (if s0 = 0 then (fX12_get μ a0 0).bind fun q3 => (if (μ.1 402 9) ≤ 4 then jjX12_goOn_59 μ a0 q3 1 else jjX12_goOn_59 μ a0 q3 2) else jjX12_goOn_99 μ a0)
def jjX12_goOn_31 (μ : PM) (a0 : Int32)   : Option (PM) :=
  jjX12_goOn_32 μ a0 0
def fX12_goOn (μ : PM) (a0 : Int32) : Option (PM) :=
  (fX12_get μ a0 0).bind fun q1 => (if (fX12_has (μ.1 402 29) q1) = 0 then jjX12_goOn_31 μ a0 else (fX12_drawnBy μ 2).bind fun q7 => (if q7.1 = 0 then jjX12_goOn_32 q7.2 a0 1 else jjX12_goOn_31 q7.2 a0))
set_option maxRecDepth 20000 in
set_option maxHeartbeats 4000000 in
theorem jqX12_goOn_99 (w : go_Wd) (tx : Nat) (Q : Option Value → go_M → Prop) (μ : PM) (a0 : Int32)     (out : PM) (h : jjX12_goOn_99 μ a0   = some out) (hK : Q none (go_mk tx out)) : Go w 8 0 0 mtX12_goOn 99 [(0, .ref 401), (1, .int a0)] [] (go_mk tx μ) (go_Z w Q) := by
  unfold jjX12_goOn_99 at h
  refine go_aload_n dX12_goOn_99 0 rfl ?_
  refine go_iload_n dX12_goOn_100 1 rfl ?_
  obtain ⟨q2, hq2, h⟩ := go_bind h
  refine pp_callV (as := [.int a0]) (st := []) (rv := none) (μ1 := q2) (st1 := []) dX12_goOn_101 ll_X12_339 sh_401 (by decide) rfl (ctX12_claimBy  hq2) rfl (Nat.le_of_ble_eq_true rfl) (Nat.le_of_ble_eq_true rfl) (go_Z_up w _) rfl rfl ?_
  cases h
  exact go_vret dX12_goOn_104 rfl hK
set_option maxRecDepth 20000 in
set_option maxHeartbeats 4000000 in
theorem jqX12_goOn_76 (w : go_Wd) (tx : Nat) (Q : Option Value → go_M → Prop) (μ : PM) (a0 : Int32) (v3 : Int32)  (s1 : Int32) (s2 : Int32) (s3 : Int32)  (out : PM) (h : jjX12_goOn_76 μ a0 v3 s1 s2 s3 = some out) (hK : Q none (go_mk tx out)) : Go w 8 0 0 mtX12_goOn 76 [(0, .ref 401), (1, .int a0), (3, .int v3)] [.int s3, .int s2, .int s1, .ref 401] (go_mk tx μ) (go_Z w Q) := by
  unfold jjX12_goOn_76 at h
  obtain ⟨q4, hq4, h⟩ := go_bind h
  refine pp_callV (as := [.int s1, .int s2, .int s3]) (st := []) (rv := none) (μ1 := q4) (st1 := []) dX12_goOn_76 ll_X12_76 sh_401 (by decide) rfl (ctX12_put  hq4) rfl (Nat.le_of_ble_eq_true rfl) (Nat.le_of_ble_eq_true rfl) (go_Z_up w _) rfl rfl ?_
  refine go_iload_n dX12_goOn_79 2 rfl ?_
  refine go_bipush (v := 9) dX12_goOn_80 (by decide) ?_
  refine go_icmp_lt 94 dX12_goOn_82 (by decide) (fun hc => ?_) (fun hc => ?_)
  · have h := go_ifp hc h
    refine go_aload_n dX12_goOn_94 0 rfl ?_
    refine go_iload_n dX12_goOn_95 1 rfl ?_
    obtain ⟨q5, hq5, h⟩ := go_bind h
    refine pp_callV (as := [.int a0]) (st := []) (rv := none) (μ1 := q5) (st1 := []) dX12_goOn_96 ll_X12_336 sh_401 (by decide) rfl (ctX12_breakBy  hq5) rfl (Nat.le_of_ble_eq_true rfl) (Nat.le_of_ble_eq_true rfl) (go_Z_up w _) rfl rfl ?_
    refine go_pick [0, 1] rfl ?_
    exact jqX12_goOn_99 w tx Q q5 a0     _ h hK
  · have h := go_ifn hc h
    refine go_aload_n dX12_goOn_85 0 rfl ?_
    refine go_iload_n dX12_goOn_86 1 rfl ?_
    refine go_iconst (v := 1) dX12_goOn_87 (by decide) ?_
    refine go_bipush (v := 9) dX12_goOn_88 (by decide) ?_
    obtain ⟨q6, hq6, h⟩ := go_bind h
    refine pp_callV (as := [.int a0, .int 1, .int 9]) (st := []) (rv := none) (μ1 := q6) (st1 := []) dX12_goOn_90 ll_X12_327 sh_401 (by decide) rfl (ctX12_write  hq6) rfl (Nat.le_of_ble_eq_true rfl) (Nat.le_of_ble_eq_true rfl) (go_Z_up w _) rfl rfl ?_
    cases h
    exact go_vret dX12_goOn_93 rfl hK
set_option maxRecDepth 20000 in
set_option maxHeartbeats 4000000 in
theorem jqX12_goOn_59 (w : go_Wd) (tx : Nat) (Q : Option Value → go_M → Prop) (μ : PM) (a0 : Int32)   (s0 : Int32) (s1 : Int32)  (out : PM) (h : jjX12_goOn_59 μ a0  s0 s1 = some out) (hK : Q none (go_mk tx out)) : Go w 8 0 0 mtX12_goOn 59 [(0, .ref 401), (1, .int a0)] [.int s1, .int s0] (go_mk tx μ) (go_Z w Q) := by
  unfold jjX12_goOn_59 at h
  refine go_iadd dX12_goOn_59 ?_
  refine go_istore_n dX12_goOn_60 (by decide) rfl ?_
  show Go w 8 0 0 mtX12_goOn 61 [(3, .int (s0 + s1)), (0, .ref 401), (1, .int a0)] [] (go_mk tx μ) (go_Z w Q)
  refine go_aload_n dX12_goOn_61 1 rfl ?_
  refine go_iload_n dX12_goOn_62 2 rfl ?_
  refine go_iconst (v := 0) dX12_goOn_63 (by decide) ?_
  refine go_iload_n dX12_goOn_64 0 rfl ?_
  refine go_bipush (v := 9) dX12_goOn_65 (by decide) ?_
  refine go_icmp_ge 74 dX12_goOn_67 (by decide) (fun hc => ?_) (fun hc => ?_)
  · have h := go_ifp hc h
    refine go_bipush (v := 10) dX12_goOn_74 (by decide) ?_
    refine go_pick [1, 2, 0] rfl ?_
    exact jqX12_goOn_76 w tx Q μ a0 ((s0 + s1))  a0 0 10  _ h hK
  · have h := go_ifn hc h
    refine go_iload_n dX12_goOn_70 0 rfl ?_
    refine go_goto 76 dX12_goOn_71 (by decide) ?_
    refine go_pick [1, 2, 0] rfl ?_
    exact jqX12_goOn_76 w tx Q μ a0 ((s0 + s1))  a0 0 ((s0 + s1))  _ h hK
set_option maxRecDepth 20000 in
set_option maxHeartbeats 4000000 in
theorem jqX12_goOn_32 (w : go_Wd) (tx : Nat) (Q : Option Value → go_M → Prop) (μ : PM) (a0 : Int32)   (s0 : Int32) (hs0 : s0 = 0 ∨ s0 = 1) (out : PM) (h : jjX12_goOn_32 μ a0  s0 = some out) (hK : Q none (go_mk tx out)) : Go w 8 0 0 mtX12_goOn 32 [(0, .ref 401), (1, .int a0)] [.int s0] (go_mk tx μ) (go_Z w Q) := by
  unfold jjX12_goOn_32 at h
  refine go_istore_n dX12_goOn_32 (by decide) rfl ?_
  show Go w 8 0 0 mtX12_goOn 33 [(2, .int s0), (0, .ref 401), (1, .int a0)] [] (go_mk tx μ) (go_Z w Q)
  refine go_iload_n dX12_goOn_33 0 rfl ?_
  refine go_if_ne 99 dX12_goOn_34 (by decide) (fun hc => ?_) (fun hc => ?_)
  · have h := go_ifn hc h
    refine go_pick [1, 2] rfl ?_
    exact jqX12_goOn_99 w tx Q μ a0     _ h hK
  · have h := go_ifp hc h
    refine go_aload_n dX12_goOn_37 1 rfl ?_
    refine go_iload_n dX12_goOn_38 2 rfl ?_
    refine go_iconst (v := 0) dX12_goOn_39 (by decide) ?_
    obtain ⟨q3, hq3, h⟩ := go_bind h
    refine pp_callV (as := [.int a0, .int 0]) (st := []) (rv := (some (.int q3))) (μ1 := μ) (st1 := [.int q3]) dX12_goOn_40 ll_X12_264 sh_401 (by decide) rfl (ctX12_get  hq3) rfl (Nat.le_of_ble_eq_true rfl) (Nat.le_of_ble_eq_true rfl) (go_Z_up w _) rfl rfl ?_
    refine go_aload_n dX12_goOn_43 1 rfl ?_
    refine pp_getR dX12_goOn_44 ff_X12_7 (Or.inr ⟨_, rfl⟩) sh_401 rf_401_0 ?_
    refine go_bipush (v := 9) dX12_goOn_47 (by decide) ?_
    refine pp_ildc (q := 9) dX12_goOn_49 sh_402 (by decide) ?_
    refine go_iconst (v := 4) dX12_goOn_50 (by decide) ?_
    refine go_icmp_le 58 dX12_goOn_51 (by decide) (fun hc => ?_) (fun hc => ?_)
    · have h := go_ifp hc h
      refine go_iconst (v := 1) dX12_goOn_58 (by decide) ?_
      refine go_pick [1, 2] rfl ?_
      exact jqX12_goOn_59 w tx Q μ a0   q3 1  _ h hK
    · have h := go_ifn hc h
      refine go_iconst (v := 2) dX12_goOn_54 (by decide) ?_
      refine go_goto 59 dX12_goOn_55 (by decide) ?_
      refine go_pick [1, 2] rfl ?_
      exact jqX12_goOn_59 w tx Q μ a0   q3 2  _ h hK
set_option maxRecDepth 20000 in
set_option maxHeartbeats 4000000 in
theorem jqX12_goOn_31 (w : go_Wd) (tx : Nat) (Q : Option Value → go_M → Prop) (μ : PM) (a0 : Int32)     (out : PM) (h : jjX12_goOn_31 μ a0   = some out) (hK : Q none (go_mk tx out)) : Go w 8 0 0 mtX12_goOn 31 [(0, .ref 401), (1, .int a0)] [] (go_mk tx μ) (go_Z w Q) := by
  unfold jjX12_goOn_31 at h
  refine go_iconst (v := 0) dX12_goOn_31 (by decide) ?_
  refine go_pick [0, 1] rfl ?_
  exact jqX12_goOn_32 w tx Q μ a0   0 (Or.inl rfl) _ h hK
set_option maxRecDepth 20000 in
set_option maxHeartbeats 4000000 in
theorem cmX12_goOn (w : go_Wd) (tx : Nat) (Q : Option Value → go_M → Prop) (μ : PM) (a0 : Int32) (out : PM) (h : fX12_goOn μ a0 = some out) (hK : Q none (go_mk tx out)) : Go w 8 0 0 mtX12_goOn 0 [(0, .ref 401), (1, .int a0)] [] (go_mk tx μ) (go_Z w Q) := by
  unfold fX12_goOn at h
  refine go_aload_n dX12_goOn_0 0 rfl ?_
  refine pp_getR dX12_goOn_1 ff_X12_7 (Or.inr ⟨_, rfl⟩) sh_401 rf_401_0 ?_
  refine go_bipush (v := 29) dX12_goOn_4 (by decide) ?_
  refine pp_ildc (q := 29) dX12_goOn_6 sh_402 (by decide) ?_
  refine go_aload_n dX12_goOn_7 0 rfl ?_
  refine go_iload_n dX12_goOn_8 1 rfl ?_
  refine go_iconst (v := 0) dX12_goOn_9 (by decide) ?_
  obtain ⟨q1, hq1, h⟩ := go_bind h
  refine pp_callV (as := [.int a0, .int 0]) (st := [.int (μ.1 402 29)]) (rv := (some (.int q1))) (μ1 := μ) (st1 := [.int q1, .int (μ.1 402 29)]) dX12_goOn_10 ll_X12_264 sh_401 (by decide) rfl (ctX12_get  hq1) rfl (Nat.le_of_ble_eq_true rfl) (Nat.le_of_ble_eq_true rfl) (go_Z_up w _) rfl rfl ?_
  refine pp_callS (as := [.int (μ.1 402 29), .int q1]) (st := []) (rv := (some (.int (fX12_has (μ.1 402 29) q1)))) (μ1 := μ) (st1 := [.int (fX12_has (μ.1 402 29) q1)]) dX12_goOn_13 ll_X12_239 (ctX12_has  rfl) rfl (Nat.le_of_ble_eq_true rfl) (Nat.le_of_ble_eq_true rfl) (go_Z_up w _) rfl rfl ?_
  refine go_if_eq 31 dX12_goOn_16 (by decide) (fun hc => ?_) (fun hc => ?_)
  · have h := go_ifp hc h
    refine go_pick [0, 1] rfl ?_
    exact jqX12_goOn_31 w tx Q μ a0     _ h hK
  · have h := go_ifn hc h
    refine go_aload_n dX12_goOn_19 0 rfl ?_
    refine go_iconst (v := 2) dX12_goOn_20 (by decide) ?_
    obtain ⟨q7, hq7, h⟩ := go_bind h
    refine pp_callV (as := [.int 2]) (st := []) (rv := (some (.int q7.1))) (μ1 := q7.2) (st1 := [.int q7.1]) dX12_goOn_21 ll_X12_324 sh_401 (by decide) rfl (ctX12_drawnBy  hq7) rfl (Nat.le_of_ble_eq_true rfl) (Nat.le_of_ble_eq_true rfl) (go_Z_up w _) rfl rfl ?_
    refine go_if_ne 31 dX12_goOn_24 (by decide) (fun hc => ?_) (fun hc => ?_)
    · have h := go_ifn hc h
      refine go_pick [0, 1] rfl ?_
      exact jqX12_goOn_31 w tx Q q7.2 a0     _ h hK
    · have h := go_ifp hc h
      refine go_iconst (v := 1) dX12_goOn_27 (by decide) ?_
      refine go_goto 32 dX12_goOn_28 (by decide) ?_
      refine go_pick [0, 1] rfl ?_
      exact jqX12_goOn_32 w tx Q q7.2 a0   1 (Or.inr rfl) _ h hK
theorem ctX12_goOn {w : go_Wd} {tx : Nat} {μ : PM} {a0 : Int32} {μ1 : PM}  (h : fX12_goOn μ a0 = some μ1) : Ct w 8 0 0 mtX12_goOn [.ref 401, .int a0] (go_mk tx μ) (fun r' M' => r' = none ∧ M' = go_mk tx μ1) :=
  go_entry rfl (by decide) (Nat.le_of_ble_eq_true rfl) (cmX12_goOn w tx _ μ a0 _ h ⟨rfl, rfl⟩)
def lbX12_pass_15   (v1 : Int32) (μ : PM) : Option ((Int32 × PM) ⊕ ((PM) ⊕ (PM))) :=
  (if (μ.1 402 0) ≤ v1 then some (.inr (.inl μ)) else (fX12_isIce μ v1).bind fun q3 => (if q3 = 0 then (fX12_get μ v1 0).bind fun q4 => (if (fX12_isCell q4) = 0 then some (.inl ((v1 + 1), μ)) else (fX12_goOn μ v1).bind fun q5 => some (.inl ((v1 + 1), q5))) else (fX12_meltsOf μ (μ.1 402 3) v1).bind fun q6 => (if q6.1 ≤ 0 then some (.inl ((v1 + 1), q6.2)) else (fX12_put q6.2 v1 0 0).bind fun q7 => some (.inl ((v1 + 1), q7)))))
def fX12_pass (μ : PM)  : Option (PM) :=
  (fX12_drawnBy μ 10).bind fun q1 => go_let (pm_wi q1.2 402 9 q1.1) fun μ2 => ((lp (fun s => lbX12_pass_15 s.1 s.2) go_fuel (0, μ2)).bind fun ρ8 => go_cs ρ8 (fun e9 => go_let (pm_wi e9 402 7 ((e9.1 402 7) + 1)) fun μ10 => some (μ10)) (fun y => some y))
def ggX12_pass_15 (w : go_Wd) (tx : Nat) (Q : Option Value → go_M → Prop)   (s : Int32 × PM) : Prop := Go w 9 0 0 mtX12_pass 15 [(0, .ref 401), (1, .int s.1)] [] (go_mk tx s.2) (go_Z w Q)
def eeX12_pass_15 (w : go_Wd) (tx : Nat) (Q : Option Value → go_M → Prop)   : (PM) ⊕ (PM) → Prop
  | .inl e => Go w 9 0 0 mtX12_pass 80 [(0, .ref 401)] [] (go_mk tx e) (go_Z w Q)
  | .inr y => Q none (go_mk tx y)
set_option maxRecDepth 20000 in
set_option maxHeartbeats 4000000 in
theorem lqX12_pass_15 (w : go_Wd) (tx : Nat) (Q : Option Value → go_M → Prop)    (v1 : Int32) (μ : PM) (out : (Int32 × PM) ⊕ ((PM) ⊕ (PM))) (h : lbX12_pass_15  v1 μ = some out) (hK : go_out (ggX12_pass_15 w tx Q  ) (eeX12_pass_15 w tx Q  ) out) : ggX12_pass_15 w tx Q   (v1, μ) := by
  unfold lbX12_pass_15 at h
  show Go w 9 0 0 mtX12_pass 15 [(0, .ref 401), (1, .int v1)] [] (go_mk tx μ) (go_Z w Q)
  refine go_iload_n dX12_pass_15 1 rfl ?_
  refine go_aload_n dX12_pass_16 0 rfl ?_
  refine pp_getR dX12_pass_17 ff_X12_7 (Or.inr ⟨_, rfl⟩) sh_401 rf_401_0 ?_
  refine go_iconst (v := 0) dX12_pass_20 (by decide) ?_
  refine pp_ildc (q := 0) dX12_pass_21 sh_402 (by decide) ?_
  refine go_icmp_ge 80 dX12_pass_22 (by decide) (fun hc => ?_) (fun hc => ?_)
  · have h := go_ifp hc h
    cases h
    have hK : Go w 9 0 0 mtX12_pass 80 [(0, .ref 401)] [] (go_mk tx μ) (go_Z w Q) := hK
    exact go_pick [0] rfl hK
  · have h := go_ifn hc h
    refine go_aload_n dX12_pass_25 0 rfl ?_
    refine go_iload_n dX12_pass_26 1 rfl ?_
    obtain ⟨q3, hq3, h⟩ := go_bind h
    refine pp_callV (as := [.int v1]) (st := []) (rv := (some (.int q3))) (μ1 := μ) (st1 := [.int q3]) dX12_pass_27 ll_X12_269 sh_401 (by decide) rfl (ctX12_isIce  hq3) rfl (Nat.le_of_ble_eq_true rfl) (Nat.le_of_ble_eq_true rfl) (go_Z_up w _) rfl rfl ?_
    refine go_if_eq 57 dX12_pass_30 (by decide) (fun hc => ?_) (fun hc => ?_)
    · have h := go_ifp hc h
      refine go_aload_n dX12_pass_57 0 rfl ?_
      refine go_iload_n dX12_pass_58 1 rfl ?_
      refine go_iconst (v := 0) dX12_pass_59 (by decide) ?_
      obtain ⟨q4, hq4, h⟩ := go_bind h
      refine pp_callV (as := [.int v1, .int 0]) (st := []) (rv := (some (.int q4))) (μ1 := μ) (st1 := [.int q4]) dX12_pass_60 ll_X12_264 sh_401 (by decide) rfl (ctX12_get  hq4) rfl (Nat.le_of_ble_eq_true rfl) (Nat.le_of_ble_eq_true rfl) (go_Z_up w _) rfl rfl ?_
      refine pp_callS (as := [.int q4]) (st := []) (rv := (some (.int (fX12_isCell q4)))) (μ1 := μ) (st1 := [.int (fX12_isCell q4)]) dX12_pass_63 ll_X12_84 (ctX12_isCell  rfl) rfl (Nat.le_of_ble_eq_true rfl) (Nat.le_of_ble_eq_true rfl) (go_Z_up w _) rfl rfl ?_
      refine go_if_eq 74 dX12_pass_66 (by decide) (fun hc => ?_) (fun hc => ?_)
      · have h := go_ifp hc h
        refine go_iinc (v := (v1 + 1)) dX12_pass_74 1 rfl rfl (by decide) rfl ?_
        show Go w 9 0 0 mtX12_pass 77 [(1, .int (v1 + 1)), (0, .ref 401)] [] (go_mk tx μ) (go_Z w Q)
        refine go_goto 15 dX12_pass_77 (by decide) ?_
        cases h
        have hK : Go w 9 0 0 mtX12_pass 15 [(0, .ref 401), (1, .int (v1 + 1))] [] (go_mk tx μ) (go_Z w Q) := hK
        exact go_pick [1, 0] rfl hK
      · have h := go_ifn hc h
        refine go_aload_n dX12_pass_69 0 rfl ?_
        refine go_iload_n dX12_pass_70 1 rfl ?_
        obtain ⟨q5, hq5, h⟩ := go_bind h
        refine pp_callV (as := [.int v1]) (st := []) (rv := none) (μ1 := q5) (st1 := []) dX12_pass_71 ll_X12_345 sh_401 (by decide) rfl (ctX12_goOn  hq5) rfl (Nat.le_of_ble_eq_true rfl) (Nat.le_of_ble_eq_true rfl) (go_Z_up w _) rfl rfl ?_
        refine go_iinc (v := (v1 + 1)) dX12_pass_74 1 rfl rfl (by decide) rfl ?_
        show Go w 9 0 0 mtX12_pass 77 [(1, .int (v1 + 1)), (0, .ref 401)] [] (go_mk tx q5) (go_Z w Q)
        refine go_goto 15 dX12_pass_77 (by decide) ?_
        cases h
        have hK : Go w 9 0 0 mtX12_pass 15 [(0, .ref 401), (1, .int (v1 + 1))] [] (go_mk tx q5) (go_Z w Q) := hK
        exact go_pick [1, 0] rfl hK
    · have h := go_ifn hc h
      refine go_aload_n dX12_pass_33 0 rfl ?_
      refine go_aload_n dX12_pass_34 0 rfl ?_
      refine pp_getR dX12_pass_35 ff_X12_7 (Or.inr ⟨_, rfl⟩) sh_401 rf_401_0 ?_
      refine go_iconst (v := 3) dX12_pass_38 (by decide) ?_
      refine pp_ildc (q := 3) dX12_pass_39 sh_402 (by decide) ?_
      refine go_iload_n dX12_pass_40 1 rfl ?_
      obtain ⟨q6, hq6, h⟩ := go_bind h
      refine pp_callV (as := [.int (μ.1 402 3), .int v1]) (st := []) (rv := (some (.int q6.1))) (μ1 := q6.2) (st1 := [.int q6.1]) dX12_pass_41 ll_X12_342 sh_401 (by decide) rfl (ctX12_meltsOf  hq6) rfl (Nat.le_of_ble_eq_true rfl) (Nat.le_of_ble_eq_true rfl) (go_Z_up w _) rfl rfl ?_
      refine go_if_le 74 dX12_pass_44 (by decide) (fun hc => ?_) (fun hc => ?_)
      · have h := go_ifp hc h
        refine go_iinc (v := (v1 + 1)) dX12_pass_74 1 rfl rfl (by decide) rfl ?_
        show Go w 9 0 0 mtX12_pass 77 [(1, .int (v1 + 1)), (0, .ref 401)] [] (go_mk tx q6.2) (go_Z w Q)
        refine go_goto 15 dX12_pass_77 (by decide) ?_
        cases h
        have hK : Go w 9 0 0 mtX12_pass 15 [(0, .ref 401), (1, .int (v1 + 1))] [] (go_mk tx q6.2) (go_Z w Q) := hK
        exact go_pick [1, 0] rfl hK
      · have h := go_ifn hc h
        refine go_aload_n dX12_pass_47 0 rfl ?_
        refine go_iload_n dX12_pass_48 1 rfl ?_
        refine go_iconst (v := 0) dX12_pass_49 (by decide) ?_
        refine go_iconst (v := 0) dX12_pass_50 (by decide) ?_
        obtain ⟨q7, hq7, h⟩ := go_bind h
        refine pp_callV (as := [.int v1, .int 0, .int 0]) (st := []) (rv := none) (μ1 := q7) (st1 := []) dX12_pass_51 ll_X12_76 sh_401 (by decide) rfl (ctX12_put  hq7) rfl (Nat.le_of_ble_eq_true rfl) (Nat.le_of_ble_eq_true rfl) (go_Z_up w _) rfl rfl ?_
        refine go_goto 74 dX12_pass_54 (by decide) ?_
        refine go_iinc (v := (v1 + 1)) dX12_pass_74 1 rfl rfl (by decide) rfl ?_
        show Go w 9 0 0 mtX12_pass 77 [(1, .int (v1 + 1)), (0, .ref 401)] [] (go_mk tx q7) (go_Z w Q)
        refine go_goto 15 dX12_pass_77 (by decide) ?_
        cases h
        have hK : Go w 9 0 0 mtX12_pass 15 [(0, .ref 401), (1, .int (v1 + 1))] [] (go_mk tx q7) (go_Z w Q) := hK
        exact go_pick [1, 0] rfl hK
set_option maxRecDepth 20000 in
set_option maxHeartbeats 4000000 in
theorem cmX12_pass (w : go_Wd) (tx : Nat) (Q : Option Value → go_M → Prop) (μ : PM)  (out : PM) (h : fX12_pass μ = some out) (hK : Q none (go_mk tx out)) : Go w 9 0 0 mtX12_pass 0 [(0, .ref 401)] [] (go_mk tx μ) (go_Z w Q) := by
  unfold fX12_pass at h
  refine go_aload_n dX12_pass_0 0 rfl ?_
  refine pp_getR dX12_pass_1 ff_X12_7 (Or.inr ⟨_, rfl⟩) sh_401 rf_401_0 ?_
  refine go_bipush (v := 9) dX12_pass_4 (by decide) ?_
  refine go_aload_n dX12_pass_6 0 rfl ?_
  refine go_bipush (v := 10) dX12_pass_7 (by decide) ?_
  obtain ⟨q1, hq1, h⟩ := go_bind h
  refine pp_callV (as := [.int 10]) (st := [.int 9, .ref 402]) (rv := (some (.int q1.1))) (μ1 := q1.2) (st1 := [.int q1.1, .int 9, .ref 402]) dX12_pass_9 ll_X12_324 sh_401 (by decide) rfl (ctX12_drawnBy  hq1) rfl (Nat.le_of_ble_eq_true rfl) (Nat.le_of_ble_eq_true rfl) (go_Z_up w _) rfl rfl ?_
  obtain ⟨μ2, hμ2, h⟩ := go_let_e h
  refine pp_istc (q := 9) dX12_pass_12 sh_402 (by decide) hμ2 ?_
  refine go_iconst (v := 0) dX12_pass_13 (by decide) ?_
  refine go_istore_n dX12_pass_14 (by decide) rfl ?_
  show Go w 9 0 0 mtX12_pass 15 [(1, .int 0), (0, .ref 401)] [] (go_mk tx μ2) (go_Z w Q)
  obtain ⟨ρ8, hρ8, h⟩ := go_bind h
  refine go_pick [1, 0] rfl ?_
  refine go_lp (G := ggX12_pass_15 w tx Q  ) (E := eeX12_pass_15 w tx Q  ) (fun s out h hK => lqX12_pass_15 w tx Q    s.1 s.2 out h hK) go_fuel (0, μ2) ρ8 hρ8 ?_
  rcases ρ8 with e9 | y
  · have h := go_csl h
    show Go w 9 0 0 mtX12_pass 80 [(0, .ref 401)] [] (go_mk tx e9) (go_Z w Q)
    refine go_aload_n dX12_pass_80 0 rfl ?_
    refine pp_getR dX12_pass_81 ff_X12_7 (Or.inr ⟨_, rfl⟩) sh_401 rf_401_0 ?_
    refine go_bipush (v := 7) dX12_pass_84 (by decide) ?_
    refine go_dup2 dX12_pass_86 rfl rfl ?_
    refine pp_ildc (q := 7) dX12_pass_87 sh_402 (by decide) ?_
    refine go_iconst (v := 1) dX12_pass_88 (by decide) ?_
    refine go_iadd dX12_pass_89 ?_
    obtain ⟨μ10, hμ10, h⟩ := go_let_e h
    refine pp_istc (q := 7) dX12_pass_90 sh_402 (by decide) hμ10 ?_
    cases h
    exact go_vret dX12_pass_91 rfl hK
  · have h := go_csr h
    cases h
    exact hK
theorem ctX12_pass {w : go_Wd} {tx : Nat} {μ : PM}  {μ1 : PM}  (h : fX12_pass μ = some μ1) : Ct w 9 0 0 mtX12_pass [.ref 401] (go_mk tx μ) (fun r' M' => r' = none ∧ M' = go_mk tx μ1) :=
  go_entry rfl (by decide) (Nat.le_of_ble_eq_true rfl) (cmX12_pass w tx _ μ  _ h ⟨rfl, rfl⟩)
def lbX12_keep_98  (v1 : Int32) (v2 : Int32) (μ : PM) : Option ((Int32 × PM) ⊕ ((PM) ⊕ (PM))) :=
  (if 22 ≤ v2 then some (.inr (.inl μ)) else go_chk (7 + v2) 1792 <| go_chk ((v1 + 2) + v2) 1792 <| go_let (pm_wi μ 402 (((v1 + 2) + v2) : Int32).toNatClampNeg (μ.1 402 ((7 + v2) : Int32).toNatClampNeg)) fun μ7 => some (.inl ((v2 + 1), μ7)))
def lbX12_keep_131  (v1 : Int32) (v2 : Int32) (μ : PM) : Option ((Int32 × PM) ⊕ ((PM) ⊕ (PM))) :=
  (if 30 ≤ v2 then some (.inr (.inl μ)) else go_chk (1762 + v2) 1792 <| go_chk ((v1 + 24) + v2) 1792 <| go_let (pm_wi μ 402 (((v1 + 24) + v2) : Int32).toNatClampNeg (μ.1 402 ((1762 + v2) : Int32).toNatClampNeg)) fun μ12 => some (.inl ((v2 + 1), μ12)))
def jjX12_keep_56 (μ : PM)    : Option (PM) :=
  go_let ((142 + (54 * (μ.1 402 4)))) fun x1 => go_chk x1 1792 <| go_let (pm_wi μ 402 x1.toNatClampNeg (μ.1 402 0)) fun μ2 => go_chk (x1 + 1) 1792 <| go_let (pm_wi μ2 402 ((x1 + 1) : Int32).toNatClampNeg (μ2.1 402 1)) fun μ4 => ((lp (fun s => lbX12_keep_98 x1 s.1 s.2) go_fuel (0, μ4)).bind fun ρ9 => go_cs ρ9 (fun e10 => ((lp (fun s => lbX12_keep_131 x1 s.1 s.2) go_fuel (0, e10)).bind fun ρ14 => go_cs ρ14 (fun e15 => go_let (pm_wi e15 402 4 ((e15.1 402 4) + 1)) fun μ16 => some (μ16)) (fun y => some y))) (fun y => some y))
def lbX12_keep_13   (v1 : Int32) (μ : PM) : Option ((Int32 × PM) ⊕ ((PM) ⊕ (PM))) :=
  (if 1566 ≤ v1 then some (.inr (.inl μ)) else go_chk (196 + v1) 1792 <| go_chk (142 + v1) 1792 <| go_let (pm_wi μ 402 ((142 + v1) : Int32).toNatClampNeg (μ.1 402 ((196 + v1) : Int32).toNatClampNeg)) fun μ18 => some (.inl ((v1 + 1), μ18)))
def fX12_keep (μ : PM)  : Option (PM) :=
  (if (μ.1 402 4) = 30 then ((lp (fun s => lbX12_keep_13 s.1 s.2) go_fuel (0, μ)).bind fun ρ20 => go_cs ρ20 (fun e21 => go_let (pm_wi e21 402 4 ((e21.1 402 4) - 1)) fun μ22 => jjX12_keep_56 μ22) (fun y => some y)) else jjX12_keep_56 μ)
def ggX12_keep_98 (w : go_Wd) (tx : Nat) (Q : Option Value → go_M → Prop)  (v1 : Int32) (s : Int32 × PM) : Prop := Go w 0 0 0 mtX12_keep 98 [(0, .ref 401), (1, .int v1), (2, .int s.1)] [] (go_mk tx s.2) (go_Z w Q)
def ggX12_keep_131 (w : go_Wd) (tx : Nat) (Q : Option Value → go_M → Prop)  (v1 : Int32) (s : Int32 × PM) : Prop := Go w 0 0 0 mtX12_keep 131 [(0, .ref 401), (1, .int v1), (2, .int s.1)] [] (go_mk tx s.2) (go_Z w Q)
def ggX12_keep_13 (w : go_Wd) (tx : Nat) (Q : Option Value → go_M → Prop)   (s : Int32 × PM) : Prop := Go w 0 0 0 mtX12_keep 13 [(0, .ref 401), (1, .int s.1)] [] (go_mk tx s.2) (go_Z w Q)
def eeX12_keep_98 (w : go_Wd) (tx : Nat) (Q : Option Value → go_M → Prop)  (v1 : Int32) : (PM) ⊕ (PM) → Prop
  | .inl e => Go w 0 0 0 mtX12_keep 129 [(0, .ref 401), (1, .int v1)] [] (go_mk tx e) (go_Z w Q)
  | .inr y => Q none (go_mk tx y)
def eeX12_keep_131 (w : go_Wd) (tx : Nat) (Q : Option Value → go_M → Prop)  (v1 : Int32) : (PM) ⊕ (PM) → Prop
  | .inl e => Go w 0 0 0 mtX12_keep 164 [(0, .ref 401)] [] (go_mk tx e) (go_Z w Q)
  | .inr y => Q none (go_mk tx y)
def eeX12_keep_13 (w : go_Wd) (tx : Nat) (Q : Option Value → go_M → Prop)   : (PM) ⊕ (PM) → Prop
  | .inl e => Go w 0 0 0 mtX12_keep 46 [(0, .ref 401)] [] (go_mk tx e) (go_Z w Q)
  | .inr y => Q none (go_mk tx y)
set_option maxRecDepth 20000 in
set_option maxHeartbeats 4000000 in
theorem lqX12_keep_98 (w : go_Wd) (tx : Nat) (Q : Option Value → go_M → Prop)  (v1 : Int32)  (v2 : Int32) (μ : PM) (out : (Int32 × PM) ⊕ ((PM) ⊕ (PM))) (h : lbX12_keep_98 v1 v2 μ = some out) (hK : go_out (ggX12_keep_98 w tx Q  v1) (eeX12_keep_98 w tx Q  v1) out) : ggX12_keep_98 w tx Q  v1 (v2, μ) := by
  unfold lbX12_keep_98 at h
  show Go w 0 0 0 mtX12_keep 98 [(0, .ref 401), (1, .int v1), (2, .int v2)] [] (go_mk tx μ) (go_Z w Q)
  refine go_iload_n dX12_keep_98 2 rfl ?_
  refine go_bipush (v := 22) dX12_keep_99 (by decide) ?_
  refine go_icmp_ge 129 dX12_keep_101 (by decide) (fun hc => ?_) (fun hc => ?_)
  · have h := go_ifp hc h
    cases h
    have hK : Go w 0 0 0 mtX12_keep 129 [(0, .ref 401), (1, .int v1)] [] (go_mk tx μ) (go_Z w Q) := hK
    exact go_pick [0, 1] rfl hK
  · have h := go_ifn hc h
    refine go_aload_n dX12_keep_104 0 rfl ?_
    refine pp_getR dX12_keep_105 ff_X12_7 (Or.inr ⟨_, rfl⟩) sh_401 rf_401_0 ?_
    refine go_iload_n dX12_keep_108 1 rfl ?_
    refine go_iconst (v := 2) dX12_keep_109 (by decide) ?_
    refine go_iadd dX12_keep_110 ?_
    refine go_iload_n dX12_keep_111 2 rfl ?_
    refine go_iadd dX12_keep_112 ?_
    refine go_aload_n dX12_keep_113 0 rfl ?_
    refine pp_getR dX12_keep_114 ff_X12_7 (Or.inr ⟨_, rfl⟩) sh_401 rf_401_0 ?_
    refine go_bipush (v := 7) dX12_keep_117 (by decide) ?_
    refine go_iload_n dX12_keep_119 2 rfl ?_
    refine go_iadd dX12_keep_120 ?_
    obtain ⟨hz6, h⟩ := go_chk_e h
    refine pp_ild dX12_keep_121 sh_402 hz6 ?_
    obtain ⟨hz8, h⟩ := go_chk_e h
    obtain ⟨μ7, hμ7, h⟩ := go_let_e h
    refine pp_ist dX12_keep_122 sh_402 hz8 hμ7 ?_
    refine go_iinc (v := (v2 + 1)) dX12_keep_123 2 rfl rfl (by decide) rfl ?_
    show Go w 0 0 0 mtX12_keep 126 [(2, .int (v2 + 1)), (0, .ref 401), (1, .int v1)] [] (go_mk tx μ7) (go_Z w Q)
    refine go_goto 98 dX12_keep_126 (by decide) ?_
    cases h
    have hK : Go w 0 0 0 mtX12_keep 98 [(0, .ref 401), (1, .int v1), (2, .int (v2 + 1))] [] (go_mk tx μ7) (go_Z w Q) := hK
    exact go_pick [1, 2, 0] rfl hK
set_option maxRecDepth 20000 in
set_option maxHeartbeats 4000000 in
theorem lqX12_keep_131 (w : go_Wd) (tx : Nat) (Q : Option Value → go_M → Prop)  (v1 : Int32)  (v2 : Int32) (μ : PM) (out : (Int32 × PM) ⊕ ((PM) ⊕ (PM))) (h : lbX12_keep_131 v1 v2 μ = some out) (hK : go_out (ggX12_keep_131 w tx Q  v1) (eeX12_keep_131 w tx Q  v1) out) : ggX12_keep_131 w tx Q  v1 (v2, μ) := by
  unfold lbX12_keep_131 at h
  show Go w 0 0 0 mtX12_keep 131 [(0, .ref 401), (1, .int v1), (2, .int v2)] [] (go_mk tx μ) (go_Z w Q)
  refine go_iload_n dX12_keep_131 2 rfl ?_
  refine go_bipush (v := 30) dX12_keep_132 (by decide) ?_
  refine go_icmp_ge 164 dX12_keep_134 (by decide) (fun hc => ?_) (fun hc => ?_)
  · have h := go_ifp hc h
    cases h
    have hK : Go w 0 0 0 mtX12_keep 164 [(0, .ref 401)] [] (go_mk tx μ) (go_Z w Q) := hK
    exact go_pick [0] rfl hK
  · have h := go_ifn hc h
    refine go_aload_n dX12_keep_137 0 rfl ?_
    refine pp_getR dX12_keep_138 ff_X12_7 (Or.inr ⟨_, rfl⟩) sh_401 rf_401_0 ?_
    refine go_iload_n dX12_keep_141 1 rfl ?_
    refine go_bipush (v := 24) dX12_keep_142 (by decide) ?_
    refine go_iadd dX12_keep_144 ?_
    refine go_iload_n dX12_keep_145 2 rfl ?_
    refine go_iadd dX12_keep_146 ?_
    refine go_aload_n dX12_keep_147 0 rfl ?_
    refine pp_getR dX12_keep_148 ff_X12_7 (Or.inr ⟨_, rfl⟩) sh_401 rf_401_0 ?_
    refine go_sipush (v := 1762) dX12_keep_151 (by decide) ?_
    refine go_iload_n dX12_keep_154 2 rfl ?_
    refine go_iadd dX12_keep_155 ?_
    obtain ⟨hz11, h⟩ := go_chk_e h
    refine pp_ild dX12_keep_156 sh_402 hz11 ?_
    obtain ⟨hz13, h⟩ := go_chk_e h
    obtain ⟨μ12, hμ12, h⟩ := go_let_e h
    refine pp_ist dX12_keep_157 sh_402 hz13 hμ12 ?_
    refine go_iinc (v := (v2 + 1)) dX12_keep_158 2 rfl rfl (by decide) rfl ?_
    show Go w 0 0 0 mtX12_keep 161 [(2, .int (v2 + 1)), (0, .ref 401), (1, .int v1)] [] (go_mk tx μ12) (go_Z w Q)
    refine go_goto 131 dX12_keep_161 (by decide) ?_
    cases h
    have hK : Go w 0 0 0 mtX12_keep 131 [(0, .ref 401), (1, .int v1), (2, .int (v2 + 1))] [] (go_mk tx μ12) (go_Z w Q) := hK
    exact go_pick [1, 2, 0] rfl hK
set_option maxRecDepth 20000 in
set_option maxHeartbeats 4000000 in
theorem jqX12_keep_56 (w : go_Wd) (tx : Nat) (Q : Option Value → go_M → Prop) (μ : PM)      (out : PM) (h : jjX12_keep_56 μ   = some out) (hK : Q none (go_mk tx out)) : Go w 0 0 0 mtX12_keep 56 [(0, .ref 401)] [] (go_mk tx μ) (go_Z w Q) := by
  unfold jjX12_keep_56 at h
  refine go_sipush (v := 142) dX12_keep_56 (by decide) ?_
  refine go_bipush (v := 54) dX12_keep_59 (by decide) ?_
  refine go_aload_n dX12_keep_61 0 rfl ?_
  refine pp_getR dX12_keep_62 ff_X12_7 (Or.inr ⟨_, rfl⟩) sh_401 rf_401_0 ?_
  refine go_iconst (v := 4) dX12_keep_65 (by decide) ?_
  refine pp_ildc (q := 4) dX12_keep_66 sh_402 (by decide) ?_
  refine go_imul dX12_keep_67 ?_
  refine go_iadd dX12_keep_68 ?_
  obtain ⟨x1, hx1, h⟩ := go_let_e h
  refine go_top hx1 ?_
  refine go_istore_n dX12_keep_69 (by decide) rfl ?_
  show Go w 0 0 0 mtX12_keep 70 [(1, .int x1), (0, .ref 401)] [] (go_mk tx μ) (go_Z w Q)
  refine go_aload_n dX12_keep_70 1 rfl ?_
  refine pp_getR dX12_keep_71 ff_X12_7 (Or.inr ⟨_, rfl⟩) sh_401 rf_401_0 ?_
  refine go_iload_n dX12_keep_74 0 rfl ?_
  refine go_aload_n dX12_keep_75 1 rfl ?_
  refine pp_getR dX12_keep_76 ff_X12_7 (Or.inr ⟨_, rfl⟩) sh_401 rf_401_0 ?_
  refine go_iconst (v := 0) dX12_keep_79 (by decide) ?_
  refine pp_ildc (q := 0) dX12_keep_80 sh_402 (by decide) ?_
  obtain ⟨hz3, h⟩ := go_chk_e h
  obtain ⟨μ2, hμ2, h⟩ := go_let_e h
  refine pp_ist dX12_keep_81 sh_402 hz3 hμ2 ?_
  refine go_aload_n dX12_keep_82 1 rfl ?_
  refine pp_getR dX12_keep_83 ff_X12_7 (Or.inr ⟨_, rfl⟩) sh_401 rf_401_0 ?_
  refine go_iload_n dX12_keep_86 0 rfl ?_
  refine go_iconst (v := 1) dX12_keep_87 (by decide) ?_
  refine go_iadd dX12_keep_88 ?_
  refine go_aload_n dX12_keep_89 1 rfl ?_
  refine pp_getR dX12_keep_90 ff_X12_7 (Or.inr ⟨_, rfl⟩) sh_401 rf_401_0 ?_
  refine go_iconst (v := 1) dX12_keep_93 (by decide) ?_
  refine pp_ildc (q := 1) dX12_keep_94 sh_402 (by decide) ?_
  obtain ⟨hz5, h⟩ := go_chk_e h
  obtain ⟨μ4, hμ4, h⟩ := go_let_e h
  refine pp_ist dX12_keep_95 sh_402 hz5 hμ4 ?_
  refine go_iconst (v := 0) dX12_keep_96 (by decide) ?_
  refine go_istore_n dX12_keep_97 (by decide) rfl ?_
  show Go w 0 0 0 mtX12_keep 98 [(2, .int 0), (1, .int x1), (0, .ref 401)] [] (go_mk tx μ4) (go_Z w Q)
  obtain ⟨ρ9, hρ9, h⟩ := go_bind h
  refine go_pick [2, 1, 0] rfl ?_
  refine go_lp (G := ggX12_keep_98 w tx Q  x1) (E := eeX12_keep_98 w tx Q  x1) (fun s out h hK => lqX12_keep_98 w tx Q  x1  s.1 s.2 out h hK) go_fuel (0, μ4) ρ9 hρ9 ?_
  rcases ρ9 with e10 | y
  · have h := go_csl h
    show Go w 0 0 0 mtX12_keep 129 [(0, .ref 401), (1, .int x1)] [] (go_mk tx e10) (go_Z w Q)
    refine go_iconst (v := 0) dX12_keep_129 (by decide) ?_
    refine go_istore_n dX12_keep_130 (by decide) rfl ?_
    show Go w 0 0 0 mtX12_keep 131 [(2, .int 0), (0, .ref 401), (1, .int x1)] [] (go_mk tx e10) (go_Z w Q)
    obtain ⟨ρ14, hρ14, h⟩ := go_bind h
    refine go_pick [1, 2, 0] rfl ?_
    refine go_lp (G := ggX12_keep_131 w tx Q  x1) (E := eeX12_keep_131 w tx Q  x1) (fun s out h hK => lqX12_keep_131 w tx Q  x1  s.1 s.2 out h hK) go_fuel (0, e10) ρ14 hρ14 ?_
    rcases ρ14 with e15 | y
    · have h := go_csl h
      show Go w 0 0 0 mtX12_keep 164 [(0, .ref 401)] [] (go_mk tx e15) (go_Z w Q)
      refine go_aload_n dX12_keep_164 0 rfl ?_
      refine pp_getR dX12_keep_165 ff_X12_7 (Or.inr ⟨_, rfl⟩) sh_401 rf_401_0 ?_
      refine go_iconst (v := 4) dX12_keep_168 (by decide) ?_
      refine go_dup2 dX12_keep_169 rfl rfl ?_
      refine pp_ildc (q := 4) dX12_keep_170 sh_402 (by decide) ?_
      refine go_iconst (v := 1) dX12_keep_171 (by decide) ?_
      refine go_iadd dX12_keep_172 ?_
      obtain ⟨μ16, hμ16, h⟩ := go_let_e h
      refine pp_istc (q := 4) dX12_keep_173 sh_402 (by decide) hμ16 ?_
      cases h
      exact go_vret dX12_keep_174 rfl hK
    · have h := go_csr h
      cases h
      exact hK
  · have h := go_csr h
    cases h
    exact hK
set_option maxRecDepth 20000 in
set_option maxHeartbeats 4000000 in
theorem lqX12_keep_13 (w : go_Wd) (tx : Nat) (Q : Option Value → go_M → Prop)    (v1 : Int32) (μ : PM) (out : (Int32 × PM) ⊕ ((PM) ⊕ (PM))) (h : lbX12_keep_13  v1 μ = some out) (hK : go_out (ggX12_keep_13 w tx Q  ) (eeX12_keep_13 w tx Q  ) out) : ggX12_keep_13 w tx Q   (v1, μ) := by
  unfold lbX12_keep_13 at h
  show Go w 0 0 0 mtX12_keep 13 [(0, .ref 401), (1, .int v1)] [] (go_mk tx μ) (go_Z w Q)
  refine go_iload_n dX12_keep_13 1 rfl ?_
  refine go_sipush (v := 1566) dX12_keep_14 (by decide) ?_
  refine go_icmp_ge 46 dX12_keep_17 (by decide) (fun hc => ?_) (fun hc => ?_)
  · have h := go_ifp hc h
    cases h
    have hK : Go w 0 0 0 mtX12_keep 46 [(0, .ref 401)] [] (go_mk tx μ) (go_Z w Q) := hK
    exact go_pick [0] rfl hK
  · have h := go_ifn hc h
    refine go_aload_n dX12_keep_20 0 rfl ?_
    refine pp_getR dX12_keep_21 ff_X12_7 (Or.inr ⟨_, rfl⟩) sh_401 rf_401_0 ?_
    refine go_sipush (v := 142) dX12_keep_24 (by decide) ?_
    refine go_iload_n dX12_keep_27 1 rfl ?_
    refine go_iadd dX12_keep_28 ?_
    refine go_aload_n dX12_keep_29 0 rfl ?_
    refine pp_getR dX12_keep_30 ff_X12_7 (Or.inr ⟨_, rfl⟩) sh_401 rf_401_0 ?_
    refine go_sipush (v := 196) dX12_keep_33 (by decide) ?_
    refine go_iload_n dX12_keep_36 1 rfl ?_
    refine go_iadd dX12_keep_37 ?_
    obtain ⟨hz17, h⟩ := go_chk_e h
    refine pp_ild dX12_keep_38 sh_402 hz17 ?_
    obtain ⟨hz19, h⟩ := go_chk_e h
    obtain ⟨μ18, hμ18, h⟩ := go_let_e h
    refine pp_ist dX12_keep_39 sh_402 hz19 hμ18 ?_
    refine go_iinc (v := (v1 + 1)) dX12_keep_40 1 rfl rfl (by decide) rfl ?_
    show Go w 0 0 0 mtX12_keep 43 [(1, .int (v1 + 1)), (0, .ref 401)] [] (go_mk tx μ18) (go_Z w Q)
    refine go_goto 13 dX12_keep_43 (by decide) ?_
    cases h
    have hK : Go w 0 0 0 mtX12_keep 13 [(0, .ref 401), (1, .int (v1 + 1))] [] (go_mk tx μ18) (go_Z w Q) := hK
    exact go_pick [1, 0] rfl hK
set_option maxRecDepth 20000 in
set_option maxHeartbeats 4000000 in
theorem cmX12_keep (w : go_Wd) (tx : Nat) (Q : Option Value → go_M → Prop) (μ : PM)  (out : PM) (h : fX12_keep μ = some out) (hK : Q none (go_mk tx out)) : Go w 0 0 0 mtX12_keep 0 [(0, .ref 401)] [] (go_mk tx μ) (go_Z w Q) := by
  unfold fX12_keep at h
  refine go_aload_n dX12_keep_0 0 rfl ?_
  refine pp_getR dX12_keep_1 ff_X12_7 (Or.inr ⟨_, rfl⟩) sh_401 rf_401_0 ?_
  refine go_iconst (v := 4) dX12_keep_4 (by decide) ?_
  refine pp_ildc (q := 4) dX12_keep_5 sh_402 (by decide) ?_
  refine go_bipush (v := 30) dX12_keep_6 (by decide) ?_
  refine go_icmp_ne 56 dX12_keep_8 (by decide) (fun hc => ?_) (fun hc => ?_)
  · have h := go_ifn hc h
    refine go_pick [0] rfl ?_
    exact jqX12_keep_56 w tx Q μ      _ h hK
  · have h := go_ifp hc h
    refine go_iconst (v := 0) dX12_keep_11 (by decide) ?_
    refine go_istore_n dX12_keep_12 (by decide) rfl ?_
    show Go w 0 0 0 mtX12_keep 13 [(1, .int 0), (0, .ref 401)] [] (go_mk tx μ) (go_Z w Q)
    obtain ⟨ρ20, hρ20, h⟩ := go_bind h
    refine go_pick [1, 0] rfl ?_
    refine go_lp (G := ggX12_keep_13 w tx Q  ) (E := eeX12_keep_13 w tx Q  ) (fun s out h hK => lqX12_keep_13 w tx Q    s.1 s.2 out h hK) go_fuel (0, μ) ρ20 hρ20 ?_
    rcases ρ20 with e21 | y
    · have h := go_csl h
      show Go w 0 0 0 mtX12_keep 46 [(0, .ref 401)] [] (go_mk tx e21) (go_Z w Q)
      refine go_aload_n dX12_keep_46 0 rfl ?_
      refine pp_getR dX12_keep_47 ff_X12_7 (Or.inr ⟨_, rfl⟩) sh_401 rf_401_0 ?_
      refine go_iconst (v := 4) dX12_keep_50 (by decide) ?_
      refine go_dup2 dX12_keep_51 rfl rfl ?_
      refine pp_ildc (q := 4) dX12_keep_52 sh_402 (by decide) ?_
      refine go_iconst (v := 1) dX12_keep_53 (by decide) ?_
      refine go_isub dX12_keep_54 ?_
      obtain ⟨μ22, hμ22, h⟩ := go_let_e h
      refine pp_istc (q := 4) dX12_keep_55 sh_402 (by decide) hμ22 ?_
      refine go_pick [0] rfl ?_
      exact jqX12_keep_56 w tx Q μ22      _ h hK
    · have h := go_csr h
      cases h
      exact hK
theorem ctX12_keep {w : go_Wd} {tx : Nat} {μ : PM}  {μ1 : PM}  (h : fX12_keep μ = some μ1) : Ct w 0 0 0 mtX12_keep [.ref 401] (go_mk tx μ) (fun r' M' => r' = none ∧ M' = go_mk tx μ1) :=
  go_entry rfl (by decide) (Nat.le_of_ble_eq_true rfl) (cmX12_keep w tx _ μ  _ h ⟨rfl, rfl⟩)
def lbX12_undo_37  (v1 : Int32) (v2 : Int32) (μ : PM) : Option ((Int32 × PM) ⊕ ((PM) ⊕ (Int32 × PM))) :=
  (if 22 ≤ v2 then some (.inr (.inl μ)) else go_chk ((v1 + 2) + v2) 1792 <| go_chk (7 + v2) 1792 <| go_let (pm_wi μ 402 ((7 + v2) : Int32).toNatClampNeg (μ.1 402 (((v1 + 2) + v2) : Int32).toNatClampNeg)) fun μ4 => some (.inl ((v2 + 1), μ4)))
def lbX12_undo_75  (v1 : Int32) (v2 : Int32) (μ : PM) : Option ((Int32 × PM) ⊕ ((PM) ⊕ (Int32 × PM))) :=
  (if (μ.1 402 0) ≤ v2 then some (.inr (.inl μ)) else (fX12_begin μ v2).bind fun q10 => some (.inl ((v2 + 1), q10)))
def lbX12_undo_105  (v1 : Int32) (v2 : Int32) (μ : PM) : Option ((Int32 × PM) ⊕ ((PM) ⊕ (Int32 × PM))) :=
  (if (μ.1 402 1) ≤ v2 then some (.inr (.inl μ)) else go_chk (47 + v2) 1792 <| go_chk (24 + v2) 1792 <| go_let (pm_wi μ 402 ((24 + v2) : Int32).toNatClampNeg (μ.1 402 ((47 + v2) : Int32).toNatClampNeg)) fun μ16 => some (.inl ((v2 + 1), μ16)))
def lbX12_undo_141  (v1 : Int32) (v2 : Int32) (μ : PM) : Option ((Int32 × PM) ⊕ (Int32 × PM)) :=
  (if 30 ≤ v2 then some (.inr (((μ.1 402 4), μ))) else go_chk ((v1 + 24) + v2) 1792 <| go_chk (1762 + v2) 1792 <| go_let (pm_wi μ 402 ((1762 + v2) : Int32).toNatClampNeg (μ.1 402 (((v1 + 24) + v2) : Int32).toNatClampNeg)) fun μ21 => some (.inl ((v2 + 1), μ21)))
def fX12_undo (μ : PM)  : Option (Int32 × PM) :=
  (if (μ.1 402 4) = 0 then some (((-1), μ)) else go_let (pm_wi μ 402 4 ((μ.1 402 4) - 1)) fun μ1 => go_let ((142 + (54 * (μ1.1 402 4)))) fun x2 => ((lp (fun s => lbX12_undo_37 x2 s.1 s.2) go_fuel (0, μ1)).bind fun ρ6 => go_cs ρ6 (fun e7 => go_chk x2 1792 <| go_let ((e7.1 402 x2.toNatClampNeg)) fun x9 => ((lp (fun s => lbX12_undo_75 x2 s.1 s.2) go_fuel (x9, e7)).bind fun ρ11 => go_cs ρ11 (fun e12 => go_chk (x2 + 1) 1792 <| go_let ((e12.1 402 ((x2 + 1) : Int32).toNatClampNeg)) fun x14 => ((lp (fun s => lbX12_undo_105 x2 s.1 s.2) go_fuel (x14, e12)).bind fun ρ18 => go_cs ρ18 (fun e19 => ((lp (fun s => lbX12_undo_141 x2 s.1 s.2) go_fuel (0, e19)).bind fun ρ23 => some ρ23)) (fun y => some y))) (fun y => some y))) (fun y => some y)))
def ggX12_undo_37 (w : go_Wd) (tx : Nat) (Q : Option Value → go_M → Prop)  (v1 : Int32) (s : Int32 × PM) : Prop := Go w 2 0 0 mtX12_undo 37 [(0, .ref 401), (1, .int v1), (2, .int s.1)] [] (go_mk tx s.2) (go_Z w Q)
def ggX12_undo_75 (w : go_Wd) (tx : Nat) (Q : Option Value → go_M → Prop)  (v1 : Int32) (s : Int32 × PM) : Prop := Go w 2 0 0 mtX12_undo 75 [(0, .ref 401), (1, .int v1), (2, .int s.1)] [] (go_mk tx s.2) (go_Z w Q)
def ggX12_undo_105 (w : go_Wd) (tx : Nat) (Q : Option Value → go_M → Prop)  (v1 : Int32) (s : Int32 × PM) : Prop := Go w 2 0 0 mtX12_undo 105 [(0, .ref 401), (1, .int v1), (2, .int s.1)] [] (go_mk tx s.2) (go_Z w Q)
def ggX12_undo_141 (w : go_Wd) (tx : Nat) (Q : Option Value → go_M → Prop)  (v1 : Int32) (s : Int32 × PM) : Prop := Go w 2 0 0 mtX12_undo 141 [(0, .ref 401), (1, .int v1), (2, .int s.1)] [] (go_mk tx s.2) (go_Z w Q)
def eeX12_undo_37 (w : go_Wd) (tx : Nat) (Q : Option Value → go_M → Prop)  (v1 : Int32) : (PM) ⊕ (Int32 × PM) → Prop
  | .inl e => Go w 2 0 0 mtX12_undo 68 [(0, .ref 401), (1, .int v1)] [] (go_mk tx e) (go_Z w Q)
  | .inr y => Q (some (.int y.1)) (go_mk tx y.2)
def eeX12_undo_75 (w : go_Wd) (tx : Nat) (Q : Option Value → go_M → Prop)  (v1 : Int32) : (PM) ⊕ (Int32 × PM) → Prop
  | .inl e => Go w 2 0 0 mtX12_undo 96 [(0, .ref 401), (1, .int v1)] [] (go_mk tx e) (go_Z w Q)
  | .inr y => Q (some (.int y.1)) (go_mk tx y.2)
def eeX12_undo_105 (w : go_Wd) (tx : Nat) (Q : Option Value → go_M → Prop)  (v1 : Int32) : (PM) ⊕ (Int32 × PM) → Prop
  | .inl e => Go w 2 0 0 mtX12_undo 139 [(0, .ref 401), (1, .int v1)] [] (go_mk tx e) (go_Z w Q)
  | .inr y => Q (some (.int y.1)) (go_mk tx y.2)
def eeX12_undo_141 (w : go_Wd) (tx : Nat) (Q : Option Value → go_M → Prop)  (v1 : Int32) (y : Int32 × PM) : Prop := Q (some (.int y.1)) (go_mk tx y.2)
set_option maxRecDepth 20000 in
set_option maxHeartbeats 4000000 in
theorem lqX12_undo_37 (w : go_Wd) (tx : Nat) (Q : Option Value → go_M → Prop)  (v1 : Int32)  (v2 : Int32) (μ : PM) (out : (Int32 × PM) ⊕ ((PM) ⊕ (Int32 × PM))) (h : lbX12_undo_37 v1 v2 μ = some out) (hK : go_out (ggX12_undo_37 w tx Q  v1) (eeX12_undo_37 w tx Q  v1) out) : ggX12_undo_37 w tx Q  v1 (v2, μ) := by
  unfold lbX12_undo_37 at h
  show Go w 2 0 0 mtX12_undo 37 [(0, .ref 401), (1, .int v1), (2, .int v2)] [] (go_mk tx μ) (go_Z w Q)
  refine go_iload_n dX12_undo_37 2 rfl ?_
  refine go_bipush (v := 22) dX12_undo_38 (by decide) ?_
  refine go_icmp_ge 68 dX12_undo_40 (by decide) (fun hc => ?_) (fun hc => ?_)
  · have h := go_ifp hc h
    cases h
    have hK : Go w 2 0 0 mtX12_undo 68 [(0, .ref 401), (1, .int v1)] [] (go_mk tx μ) (go_Z w Q) := hK
    exact go_pick [0, 1] rfl hK
  · have h := go_ifn hc h
    refine go_aload_n dX12_undo_43 0 rfl ?_
    refine pp_getR dX12_undo_44 ff_X12_7 (Or.inr ⟨_, rfl⟩) sh_401 rf_401_0 ?_
    refine go_bipush (v := 7) dX12_undo_47 (by decide) ?_
    refine go_iload_n dX12_undo_49 2 rfl ?_
    refine go_iadd dX12_undo_50 ?_
    refine go_aload_n dX12_undo_51 0 rfl ?_
    refine pp_getR dX12_undo_52 ff_X12_7 (Or.inr ⟨_, rfl⟩) sh_401 rf_401_0 ?_
    refine go_iload_n dX12_undo_55 1 rfl ?_
    refine go_iconst (v := 2) dX12_undo_56 (by decide) ?_
    refine go_iadd dX12_undo_57 ?_
    refine go_iload_n dX12_undo_58 2 rfl ?_
    refine go_iadd dX12_undo_59 ?_
    obtain ⟨hz3, h⟩ := go_chk_e h
    refine pp_ild dX12_undo_60 sh_402 hz3 ?_
    obtain ⟨hz5, h⟩ := go_chk_e h
    obtain ⟨μ4, hμ4, h⟩ := go_let_e h
    refine pp_ist dX12_undo_61 sh_402 hz5 hμ4 ?_
    refine go_iinc (v := (v2 + 1)) dX12_undo_62 2 rfl rfl (by decide) rfl ?_
    show Go w 2 0 0 mtX12_undo 65 [(2, .int (v2 + 1)), (0, .ref 401), (1, .int v1)] [] (go_mk tx μ4) (go_Z w Q)
    refine go_goto 37 dX12_undo_65 (by decide) ?_
    cases h
    have hK : Go w 2 0 0 mtX12_undo 37 [(0, .ref 401), (1, .int v1), (2, .int (v2 + 1))] [] (go_mk tx μ4) (go_Z w Q) := hK
    exact go_pick [1, 2, 0] rfl hK
set_option maxRecDepth 20000 in
set_option maxHeartbeats 4000000 in
theorem lqX12_undo_75 (w : go_Wd) (tx : Nat) (Q : Option Value → go_M → Prop)  (v1 : Int32)  (v2 : Int32) (μ : PM) (out : (Int32 × PM) ⊕ ((PM) ⊕ (Int32 × PM))) (h : lbX12_undo_75 v1 v2 μ = some out) (hK : go_out (ggX12_undo_75 w tx Q  v1) (eeX12_undo_75 w tx Q  v1) out) : ggX12_undo_75 w tx Q  v1 (v2, μ) := by
  unfold lbX12_undo_75 at h
  show Go w 2 0 0 mtX12_undo 75 [(0, .ref 401), (1, .int v1), (2, .int v2)] [] (go_mk tx μ) (go_Z w Q)
  refine go_iload_n dX12_undo_75 2 rfl ?_
  refine go_aload_n dX12_undo_76 0 rfl ?_
  refine pp_getR dX12_undo_77 ff_X12_7 (Or.inr ⟨_, rfl⟩) sh_401 rf_401_0 ?_
  refine go_iconst (v := 0) dX12_undo_80 (by decide) ?_
  refine pp_ildc (q := 0) dX12_undo_81 sh_402 (by decide) ?_
  refine go_icmp_ge 96 dX12_undo_82 (by decide) (fun hc => ?_) (fun hc => ?_)
  · have h := go_ifp hc h
    cases h
    have hK : Go w 2 0 0 mtX12_undo 96 [(0, .ref 401), (1, .int v1)] [] (go_mk tx μ) (go_Z w Q) := hK
    exact go_pick [0, 1] rfl hK
  · have h := go_ifn hc h
    refine go_aload_n dX12_undo_85 0 rfl ?_
    refine go_iload_n dX12_undo_86 2 rfl ?_
    obtain ⟨q10, hq10, h⟩ := go_bind h
    refine pp_callV (as := [.int v2]) (st := []) (rv := none) (μ1 := q10) (st1 := []) dX12_undo_87 ll_X12_72 sh_401 (by decide) rfl (ctX12_begin  hq10) rfl (Nat.le_of_ble_eq_true rfl) (Nat.le_of_ble_eq_true rfl) (go_Z_up w _) rfl rfl ?_
    refine go_iinc (v := (v2 + 1)) dX12_undo_90 2 rfl rfl (by decide) rfl ?_
    show Go w 2 0 0 mtX12_undo 93 [(2, .int (v2 + 1)), (0, .ref 401), (1, .int v1)] [] (go_mk tx q10) (go_Z w Q)
    refine go_goto 75 dX12_undo_93 (by decide) ?_
    cases h
    have hK : Go w 2 0 0 mtX12_undo 75 [(0, .ref 401), (1, .int v1), (2, .int (v2 + 1))] [] (go_mk tx q10) (go_Z w Q) := hK
    exact go_pick [1, 2, 0] rfl hK
set_option maxRecDepth 20000 in
set_option maxHeartbeats 4000000 in
theorem lqX12_undo_105 (w : go_Wd) (tx : Nat) (Q : Option Value → go_M → Prop)  (v1 : Int32)  (v2 : Int32) (μ : PM) (out : (Int32 × PM) ⊕ ((PM) ⊕ (Int32 × PM))) (h : lbX12_undo_105 v1 v2 μ = some out) (hK : go_out (ggX12_undo_105 w tx Q  v1) (eeX12_undo_105 w tx Q  v1) out) : ggX12_undo_105 w tx Q  v1 (v2, μ) := by
  unfold lbX12_undo_105 at h
  show Go w 2 0 0 mtX12_undo 105 [(0, .ref 401), (1, .int v1), (2, .int v2)] [] (go_mk tx μ) (go_Z w Q)
  refine go_iload_n dX12_undo_105 2 rfl ?_
  refine go_aload_n dX12_undo_106 0 rfl ?_
  refine pp_getR dX12_undo_107 ff_X12_7 (Or.inr ⟨_, rfl⟩) sh_401 rf_401_0 ?_
  refine go_iconst (v := 1) dX12_undo_110 (by decide) ?_
  refine pp_ildc (q := 1) dX12_undo_111 sh_402 (by decide) ?_
  refine go_icmp_ge 139 dX12_undo_112 (by decide) (fun hc => ?_) (fun hc => ?_)
  · have h := go_ifp hc h
    cases h
    have hK : Go w 2 0 0 mtX12_undo 139 [(0, .ref 401), (1, .int v1)] [] (go_mk tx μ) (go_Z w Q) := hK
    exact go_pick [0, 1] rfl hK
  · have h := go_ifn hc h
    refine go_aload_n dX12_undo_115 0 rfl ?_
    refine pp_getR dX12_undo_116 ff_X12_7 (Or.inr ⟨_, rfl⟩) sh_401 rf_401_0 ?_
    refine go_bipush (v := 24) dX12_undo_119 (by decide) ?_
    refine go_iload_n dX12_undo_121 2 rfl ?_
    refine go_iadd dX12_undo_122 ?_
    refine go_aload_n dX12_undo_123 0 rfl ?_
    refine pp_getR dX12_undo_124 ff_X12_7 (Or.inr ⟨_, rfl⟩) sh_401 rf_401_0 ?_
    refine go_bipush (v := 47) dX12_undo_127 (by decide) ?_
    refine go_iload_n dX12_undo_129 2 rfl ?_
    refine go_iadd dX12_undo_130 ?_
    obtain ⟨hz15, h⟩ := go_chk_e h
    refine pp_ild dX12_undo_131 sh_402 hz15 ?_
    obtain ⟨hz17, h⟩ := go_chk_e h
    obtain ⟨μ16, hμ16, h⟩ := go_let_e h
    refine pp_ist dX12_undo_132 sh_402 hz17 hμ16 ?_
    refine go_iinc (v := (v2 + 1)) dX12_undo_133 2 rfl rfl (by decide) rfl ?_
    show Go w 2 0 0 mtX12_undo 136 [(2, .int (v2 + 1)), (0, .ref 401), (1, .int v1)] [] (go_mk tx μ16) (go_Z w Q)
    refine go_goto 105 dX12_undo_136 (by decide) ?_
    cases h
    have hK : Go w 2 0 0 mtX12_undo 105 [(0, .ref 401), (1, .int v1), (2, .int (v2 + 1))] [] (go_mk tx μ16) (go_Z w Q) := hK
    exact go_pick [1, 2, 0] rfl hK
set_option maxRecDepth 20000 in
set_option maxHeartbeats 4000000 in
theorem lqX12_undo_141 (w : go_Wd) (tx : Nat) (Q : Option Value → go_M → Prop)  (v1 : Int32)  (v2 : Int32) (μ : PM) (out : (Int32 × PM) ⊕ (Int32 × PM)) (h : lbX12_undo_141 v1 v2 μ = some out) (hK : go_out (ggX12_undo_141 w tx Q  v1) (eeX12_undo_141 w tx Q  v1) out) : ggX12_undo_141 w tx Q  v1 (v2, μ) := by
  unfold lbX12_undo_141 at h
  show Go w 2 0 0 mtX12_undo 141 [(0, .ref 401), (1, .int v1), (2, .int v2)] [] (go_mk tx μ) (go_Z w Q)
  refine go_iload_n dX12_undo_141 2 rfl ?_
  refine go_bipush (v := 30) dX12_undo_142 (by decide) ?_
  refine go_icmp_ge 174 dX12_undo_144 (by decide) (fun hc => ?_) (fun hc => ?_)
  · have h := go_ifp hc h
    refine go_aload_n dX12_undo_174 0 rfl ?_
    refine pp_getR dX12_undo_175 ff_X12_7 (Or.inr ⟨_, rfl⟩) sh_401 rf_401_0 ?_
    refine go_iconst (v := 4) dX12_undo_178 (by decide) ?_
    refine pp_ildc (q := 4) dX12_undo_179 sh_402 (by decide) ?_
    cases h
    exact go_iret dX12_undo_180 rfl hK
  · have h := go_ifn hc h
    refine go_aload_n dX12_undo_147 0 rfl ?_
    refine pp_getR dX12_undo_148 ff_X12_7 (Or.inr ⟨_, rfl⟩) sh_401 rf_401_0 ?_
    refine go_sipush (v := 1762) dX12_undo_151 (by decide) ?_
    refine go_iload_n dX12_undo_154 2 rfl ?_
    refine go_iadd dX12_undo_155 ?_
    refine go_aload_n dX12_undo_156 0 rfl ?_
    refine pp_getR dX12_undo_157 ff_X12_7 (Or.inr ⟨_, rfl⟩) sh_401 rf_401_0 ?_
    refine go_iload_n dX12_undo_160 1 rfl ?_
    refine go_bipush (v := 24) dX12_undo_161 (by decide) ?_
    refine go_iadd dX12_undo_163 ?_
    refine go_iload_n dX12_undo_164 2 rfl ?_
    refine go_iadd dX12_undo_165 ?_
    obtain ⟨hz20, h⟩ := go_chk_e h
    refine pp_ild dX12_undo_166 sh_402 hz20 ?_
    obtain ⟨hz22, h⟩ := go_chk_e h
    obtain ⟨μ21, hμ21, h⟩ := go_let_e h
    refine pp_ist dX12_undo_167 sh_402 hz22 hμ21 ?_
    refine go_iinc (v := (v2 + 1)) dX12_undo_168 2 rfl rfl (by decide) rfl ?_
    show Go w 2 0 0 mtX12_undo 171 [(2, .int (v2 + 1)), (0, .ref 401), (1, .int v1)] [] (go_mk tx μ21) (go_Z w Q)
    refine go_goto 141 dX12_undo_171 (by decide) ?_
    cases h
    have hK : Go w 2 0 0 mtX12_undo 141 [(0, .ref 401), (1, .int v1), (2, .int (v2 + 1))] [] (go_mk tx μ21) (go_Z w Q) := hK
    exact go_pick [1, 2, 0] rfl hK
set_option maxRecDepth 20000 in
set_option maxHeartbeats 4000000 in
theorem cmX12_undo (w : go_Wd) (tx : Nat) (Q : Option Value → go_M → Prop) (μ : PM)  (out : Int32 × PM) (h : fX12_undo μ = some out) (hK : Q (some (.int out.1)) (go_mk tx out.2)) : Go w 2 0 0 mtX12_undo 0 [(0, .ref 401)] [] (go_mk tx μ) (go_Z w Q) := by
  unfold fX12_undo at h
  refine go_aload_n dX12_undo_0 0 rfl ?_
  refine pp_getR dX12_undo_1 ff_X12_7 (Or.inr ⟨_, rfl⟩) sh_401 rf_401_0 ?_
  refine go_iconst (v := 4) dX12_undo_4 (by decide) ?_
  refine pp_ildc (q := 4) dX12_undo_5 sh_402 (by decide) ?_
  refine go_if_ne 11 dX12_undo_6 (by decide) (fun hc => ?_) (fun hc => ?_)
  · have h := go_ifn hc h
    refine go_aload_n dX12_undo_11 0 rfl ?_
    refine pp_getR dX12_undo_12 ff_X12_7 (Or.inr ⟨_, rfl⟩) sh_401 rf_401_0 ?_
    refine go_iconst (v := 4) dX12_undo_15 (by decide) ?_
    refine go_dup2 dX12_undo_16 rfl rfl ?_
    refine pp_ildc (q := 4) dX12_undo_17 sh_402 (by decide) ?_
    refine go_iconst (v := 1) dX12_undo_18 (by decide) ?_
    refine go_isub dX12_undo_19 ?_
    obtain ⟨μ1, hμ1, h⟩ := go_let_e h
    refine pp_istc (q := 4) dX12_undo_20 sh_402 (by decide) hμ1 ?_
    refine go_sipush (v := 142) dX12_undo_21 (by decide) ?_
    refine go_bipush (v := 54) dX12_undo_24 (by decide) ?_
    refine go_aload_n dX12_undo_26 0 rfl ?_
    refine pp_getR dX12_undo_27 ff_X12_7 (Or.inr ⟨_, rfl⟩) sh_401 rf_401_0 ?_
    refine go_iconst (v := 4) dX12_undo_30 (by decide) ?_
    refine pp_ildc (q := 4) dX12_undo_31 sh_402 (by decide) ?_
    refine go_imul dX12_undo_32 ?_
    refine go_iadd dX12_undo_33 ?_
    obtain ⟨x2, hx2, h⟩ := go_let_e h
    refine go_top hx2 ?_
    refine go_istore_n dX12_undo_34 (by decide) rfl ?_
    show Go w 2 0 0 mtX12_undo 35 [(1, .int x2), (0, .ref 401)] [] (go_mk tx μ1) (go_Z w Q)
    refine go_iconst (v := 0) dX12_undo_35 (by decide) ?_
    refine go_istore_n dX12_undo_36 (by decide) rfl ?_
    show Go w 2 0 0 mtX12_undo 37 [(2, .int 0), (1, .int x2), (0, .ref 401)] [] (go_mk tx μ1) (go_Z w Q)
    obtain ⟨ρ6, hρ6, h⟩ := go_bind h
    refine go_pick [2, 1, 0] rfl ?_
    refine go_lp (G := ggX12_undo_37 w tx Q  x2) (E := eeX12_undo_37 w tx Q  x2) (fun s out h hK => lqX12_undo_37 w tx Q  x2  s.1 s.2 out h hK) go_fuel (0, μ1) ρ6 hρ6 ?_
    rcases ρ6 with e7 | y
    · have h := go_csl h
      show Go w 2 0 0 mtX12_undo 68 [(0, .ref 401), (1, .int x2)] [] (go_mk tx e7) (go_Z w Q)
      refine go_aload_n dX12_undo_68 0 rfl ?_
      refine pp_getR dX12_undo_69 ff_X12_7 (Or.inr ⟨_, rfl⟩) sh_401 rf_401_0 ?_
      refine go_iload_n dX12_undo_72 1 rfl ?_
      obtain ⟨hz8, h⟩ := go_chk_e h
      refine pp_ild dX12_undo_73 sh_402 hz8 ?_
      obtain ⟨x9, hx9, h⟩ := go_let_e h
      refine go_top hx9 ?_
      refine go_istore_n dX12_undo_74 (by decide) rfl ?_
      show Go w 2 0 0 mtX12_undo 75 [(2, .int x9), (0, .ref 401), (1, .int x2)] [] (go_mk tx e7) (go_Z w Q)
      obtain ⟨ρ11, hρ11, h⟩ := go_bind h
      refine go_pick [1, 2, 0] rfl ?_
      refine go_lp (G := ggX12_undo_75 w tx Q  x2) (E := eeX12_undo_75 w tx Q  x2) (fun s out h hK => lqX12_undo_75 w tx Q  x2  s.1 s.2 out h hK) go_fuel (x9, e7) ρ11 hρ11 ?_
      rcases ρ11 with e12 | y
      · have h := go_csl h
        show Go w 2 0 0 mtX12_undo 96 [(0, .ref 401), (1, .int x2)] [] (go_mk tx e12) (go_Z w Q)
        refine go_aload_n dX12_undo_96 0 rfl ?_
        refine pp_getR dX12_undo_97 ff_X12_7 (Or.inr ⟨_, rfl⟩) sh_401 rf_401_0 ?_
        refine go_iload_n dX12_undo_100 1 rfl ?_
        refine go_iconst (v := 1) dX12_undo_101 (by decide) ?_
        refine go_iadd dX12_undo_102 ?_
        obtain ⟨hz13, h⟩ := go_chk_e h
        refine pp_ild dX12_undo_103 sh_402 hz13 ?_
        obtain ⟨x14, hx14, h⟩ := go_let_e h
        refine go_top hx14 ?_
        refine go_istore_n dX12_undo_104 (by decide) rfl ?_
        show Go w 2 0 0 mtX12_undo 105 [(2, .int x14), (0, .ref 401), (1, .int x2)] [] (go_mk tx e12) (go_Z w Q)
        obtain ⟨ρ18, hρ18, h⟩ := go_bind h
        refine go_pick [1, 2, 0] rfl ?_
        refine go_lp (G := ggX12_undo_105 w tx Q  x2) (E := eeX12_undo_105 w tx Q  x2) (fun s out h hK => lqX12_undo_105 w tx Q  x2  s.1 s.2 out h hK) go_fuel (x14, e12) ρ18 hρ18 ?_
        rcases ρ18 with e19 | y
        · have h := go_csl h
          show Go w 2 0 0 mtX12_undo 139 [(0, .ref 401), (1, .int x2)] [] (go_mk tx e19) (go_Z w Q)
          refine go_iconst (v := 0) dX12_undo_139 (by decide) ?_
          refine go_istore_n dX12_undo_140 (by decide) rfl ?_
          show Go w 2 0 0 mtX12_undo 141 [(2, .int 0), (0, .ref 401), (1, .int x2)] [] (go_mk tx e19) (go_Z w Q)
          obtain ⟨ρ23, hρ23, h⟩ := go_bind h
          refine go_pick [1, 2, 0] rfl ?_
          refine go_lp (G := ggX12_undo_141 w tx Q  x2) (E := eeX12_undo_141 w tx Q  x2) (fun s out h hK => lqX12_undo_141 w tx Q  x2  s.1 s.2 out h hK) go_fuel (0, e19) ρ23 hρ23 ?_
          cases h
          exact hK
        · have h := go_csr h
          cases h
          exact hK
      · have h := go_csr h
        cases h
        exact hK
    · have h := go_csr h
      cases h
      exact hK
  · have h := go_ifp hc h
    refine go_iconst (v := (-1)) dX12_undo_9 (by decide) ?_
    cases h
    exact go_iret dX12_undo_10 rfl hK
theorem ctX12_undo {w : go_Wd} {tx : Nat} {μ : PM}  {r : Int32} {μ1 : PM}  (h : fX12_undo μ = some (r, μ1)) : Ct w 2 0 0 mtX12_undo [.ref 401] (go_mk tx μ) (fun r' M' => r' = some (.int r) ∧ M' = go_mk tx μ1) :=
  go_entry rfl (by decide) (Nat.le_of_ble_eq_true rfl) (cmX12_undo w tx _ μ  _ h ⟨rfl, rfl⟩)
def fX12_call (μ : PM) (a0 : Int32) : Option (Int32 × PM) :=
  (fX12_isIce μ a0).bind fun q1 => (if q1 = 0 then some ((0, μ)) else (fX12_keep μ).bind fun q2 => (fX12_put q2 a0 0 0).bind fun q3 => some ((1, q3)))
set_option maxRecDepth 20000 in
set_option maxHeartbeats 4000000 in
theorem cmX12_call (w : go_Wd) (tx : Nat) (Q : Option Value → go_M → Prop) (μ : PM) (a0 : Int32) (out : Int32 × PM) (h : fX12_call μ a0 = some out) (hK : Q (some (.int out.1)) (go_mk tx out.2)) : Go w 3 0 0 mtX12_call 0 [(0, .ref 401), (1, .int a0)] [] (go_mk tx μ) (go_Z w Q) := by
  unfold fX12_call at h
  refine go_aload_n dX12_call_0 0 rfl ?_
  refine go_iload_n dX12_call_1 1 rfl ?_
  obtain ⟨q1, hq1, h⟩ := go_bind h
  refine pp_callV (as := [.int a0]) (st := []) (rv := (some (.int q1))) (μ1 := μ) (st1 := [.int q1]) dX12_call_2 ll_X12_269 sh_401 (by decide) rfl (ctX12_isIce  hq1) rfl (Nat.le_of_ble_eq_true rfl) (Nat.le_of_ble_eq_true rfl) (go_Z_up w _) rfl rfl ?_
  refine go_if_ne 10 dX12_call_5 (by decide) (fun hc => ?_) (fun hc => ?_)
  · have h := go_ifn hc h
    refine go_aload_n dX12_call_10 0 rfl ?_
    obtain ⟨q2, hq2, h⟩ := go_bind h
    refine pp_callV (as := []) (st := []) (rv := none) (μ1 := q2) (st1 := []) dX12_call_11 ll_X12_348 sh_401 (by decide) rfl (ctX12_keep  hq2) rfl (Nat.le_of_ble_eq_true rfl) (Nat.le_of_ble_eq_true rfl) (go_Z_up w _) rfl rfl ?_
    refine go_aload_n dX12_call_14 0 rfl ?_
    refine go_iload_n dX12_call_15 1 rfl ?_
    refine go_iconst (v := 0) dX12_call_16 (by decide) ?_
    refine go_iconst (v := 0) dX12_call_17 (by decide) ?_
    obtain ⟨q3, hq3, h⟩ := go_bind h
    refine pp_callV (as := [.int a0, .int 0, .int 0]) (st := []) (rv := none) (μ1 := q3) (st1 := []) dX12_call_18 ll_X12_76 sh_401 (by decide) rfl (ctX12_put  hq3) rfl (Nat.le_of_ble_eq_true rfl) (Nat.le_of_ble_eq_true rfl) (go_Z_up w _) rfl rfl ?_
    refine go_iconst (v := 1) dX12_call_21 (by decide) ?_
    cases h
    exact go_zret dX12_call_22 rfl (Or.inr rfl) hK
  · have h := go_ifp hc h
    refine go_iconst (v := 0) dX12_call_8 (by decide) ?_
    cases h
    exact go_zret dX12_call_9 rfl (Or.inl rfl) hK
theorem ctX12_call {w : go_Wd} {tx : Nat} {μ : PM} {a0 : Int32} {r : Int32} {μ1 : PM}  (h : fX12_call μ a0 = some (r, μ1)) : Ct w 3 0 0 mtX12_call [.ref 401, .int a0] (go_mk tx μ) (fun r' M' => r' = some (.int r) ∧ M' = go_mk tx μ1) :=
  go_entry rfl (by decide) (Nat.le_of_ble_eq_true rfl) (cmX12_call w tx _ μ a0 _ h ⟨rfl, rfl⟩)
theorem bzX12_call {μ : PM} {a0 : Int32} {q : Int32 × PM} (h : fX12_call μ a0 = some q) : q.1 = 0 ∨ q.1 = 1 := by
  have hb : go_b (fX12_call μ a0) := by
    unfold fX12_call
    repeat' first | exact gb_0 | exact gb_1 | with_reducible apply gb_ite | with_reducible apply gb_chk | (with_reducible apply gb_let; intro x) | (with_reducible apply gb_bind; intro x)
  exact hb q h