def lbX12_isCompared_7 (μ : PM)   (v1 : Int32) : Option ((Int32) ⊕ ((Int32) ⊕ (Int32))) :=
  (if v1 < 0 then some (.inr (.inl v1)) else go_chk v1 160 <| (if (fX12_rank (μ.1 406 v1.toNatClampNeg)) ≤ 4 then some (.inr (.inl v1)) else some (.inl (v1 + (-1)))))
def jjX12_isCompared_30 (μ : PM)  (v1 : Int32)  : Option (Int32) :=
  (if v1 < 0 then some (0) else go_chk v1 160 <| (if (fX12_rank (μ.1 406 v1.toNatClampNeg)) = 4 then some (1) else some (0)))
def fX12_isCompared (μ : PM)  : Option (Int32) :=
  go_let (((μ.1 401 16) - 1)) fun x1 => ((lp (fun s => lbX12_isCompared_7 μ s) go_fuel x1).bind fun ρ3 => go_cs ρ3 (fun e4 => jjX12_isCompared_30 μ e4) (fun y => some y))
def ggX12_isCompared_7 (w : go_Wd) (tx : Nat) (Q : Option Value → go_M → Prop) (μ : PM)   (s : Int32) : Prop := Go w 1 0 0 mtX12_isCompared 7 [(0, .ref 401), (1, .int s)] [] (go_mk tx μ) (go_Z w Q)
def eeX12_isCompared_7 (w : go_Wd) (tx : Nat) (Q : Option Value → go_M → Prop) (μ : PM)   : (Int32) ⊕ (Int32) → Prop
  | .inl e => Go w 1 0 0 mtX12_isCompared 30 [(0, .ref 401), (1, .int e)] [] (go_mk tx μ) (go_Z w Q)
  | .inr y => Q (some (.int y)) (go_mk tx μ)
set_option maxRecDepth 20000 in
set_option maxHeartbeats 4000000 in
theorem lqX12_isCompared_7 (w : go_Wd) (tx : Nat) (Q : Option Value → go_M → Prop) (μ : PM)    (v1 : Int32) (out : (Int32) ⊕ ((Int32) ⊕ (Int32))) (h : lbX12_isCompared_7 μ  v1 = some out) (hK : go_out (ggX12_isCompared_7 w tx Q μ  ) (eeX12_isCompared_7 w tx Q μ  ) out) : ggX12_isCompared_7 w tx Q μ   v1 := by
  unfold lbX12_isCompared_7 at h
  show Go w 1 0 0 mtX12_isCompared 7 [(0, .ref 401), (1, .int v1)] [] (go_mk tx μ) (go_Z w Q)
  refine go_iload_n dX12_isCompared_7 1 rfl ?_
  refine go_if_lt 30 dX12_isCompared_8 (by decide) (fun hc => ?_) (fun hc => ?_)
  · have h := go_ifp hc h
    cases h
    have hK : Go w 1 0 0 mtX12_isCompared 30 [(0, .ref 401), (1, .int v1)] [] (go_mk tx μ) (go_Z w Q) := hK
    exact go_pick [0, 1] rfl hK
  · have h := go_ifn hc h
    refine go_aload_n dX12_isCompared_11 0 rfl ?_
    refine pp_getR dX12_isCompared_12 ff_X12_29 (Or.inr ⟨_, rfl⟩) sh_401 rf_401_15 ?_
    refine go_iload_n dX12_isCompared_15 1 rfl ?_
    obtain ⟨hz2, h⟩ := go_chk_e h
    refine pp_ild dX12_isCompared_16 sh_406 hz2 ?_
    refine pp_callS (as := [.int (μ.1 406 v1.toNatClampNeg)]) (st := []) (rv := (some (.int (fX12_rank (μ.1 406 v1.toNatClampNeg))))) (μ1 := μ) (st1 := [.int (fX12_rank (μ.1 406 v1.toNatClampNeg))]) dX12_isCompared_17 ll_X12_155 (ctX12_rank  rfl) rfl (Nat.le_of_ble_eq_true rfl) (Nat.le_of_ble_eq_true rfl) (go_Z_up w _) rfl rfl ?_
    refine go_iconst (v := 4) dX12_isCompared_20 (by decide) ?_
    refine go_icmp_le 30 dX12_isCompared_21 (by decide) (fun hc => ?_) (fun hc => ?_)
    · have h := go_ifp hc h
      cases h
      have hK : Go w 1 0 0 mtX12_isCompared 30 [(0, .ref 401), (1, .int v1)] [] (go_mk tx μ) (go_Z w Q) := hK
      exact go_pick [0, 1] rfl hK
    · have h := go_ifn hc h
      refine go_iinc (v := (v1 + (-1))) dX12_isCompared_24 1 rfl rfl (by decide) rfl ?_
      show Go w 1 0 0 mtX12_isCompared 27 [(1, .int (v1 + (-1))), (0, .ref 401)] [] (go_mk tx μ) (go_Z w Q)
      refine go_goto 7 dX12_isCompared_27 (by decide) ?_
      cases h
      have hK : Go w 1 0 0 mtX12_isCompared 7 [(0, .ref 401), (1, .int (v1 + (-1)))] [] (go_mk tx μ) (go_Z w Q) := hK
      exact go_pick [1, 0] rfl hK
set_option maxRecDepth 20000 in
set_option maxHeartbeats 4000000 in
theorem jqX12_isCompared_30 (w : go_Wd) (tx : Nat) (Q : Option Value → go_M → Prop) (μ : PM)  (v1 : Int32)    (out : Int32) (h : jjX12_isCompared_30 μ v1  = some out) (hK : Q (some (.int out)) (go_mk tx μ)) : Go w 1 0 0 mtX12_isCompared 30 [(0, .ref 401), (1, .int v1)] [] (go_mk tx μ) (go_Z w Q) := by
  unfold jjX12_isCompared_30 at h
  refine go_iload_n dX12_isCompared_30 1 rfl ?_
  refine go_if_lt 51 dX12_isCompared_31 (by decide) (fun hc => ?_) (fun hc => ?_)
  · have h := go_ifp hc h
    refine go_iconst (v := 0) dX12_isCompared_51 (by decide) ?_
    cases h
    exact go_zret dX12_isCompared_52 rfl (Or.inl rfl) hK
  · have h := go_ifn hc h
    refine go_aload_n dX12_isCompared_34 0 rfl ?_
    refine pp_getR dX12_isCompared_35 ff_X12_29 (Or.inr ⟨_, rfl⟩) sh_401 rf_401_15 ?_
    refine go_iload_n dX12_isCompared_38 1 rfl ?_
    obtain ⟨hz5, h⟩ := go_chk_e h
    refine pp_ild dX12_isCompared_39 sh_406 hz5 ?_
    refine pp_callS (as := [.int (μ.1 406 v1.toNatClampNeg)]) (st := []) (rv := (some (.int (fX12_rank (μ.1 406 v1.toNatClampNeg))))) (μ1 := μ) (st1 := [.int (fX12_rank (μ.1 406 v1.toNatClampNeg))]) dX12_isCompared_40 ll_X12_155 (ctX12_rank  rfl) rfl (Nat.le_of_ble_eq_true rfl) (Nat.le_of_ble_eq_true rfl) (go_Z_up w _) rfl rfl ?_
    refine go_iconst (v := 4) dX12_isCompared_43 (by decide) ?_
    refine go_icmp_ne 51 dX12_isCompared_44 (by decide) (fun hc => ?_) (fun hc => ?_)
    · have h := go_ifn hc h
      refine go_iconst (v := 0) dX12_isCompared_51 (by decide) ?_
      cases h
      exact go_zret dX12_isCompared_52 rfl (Or.inl rfl) hK
    · have h := go_ifp hc h
      refine go_iconst (v := 1) dX12_isCompared_47 (by decide) ?_
      refine go_goto 52 dX12_isCompared_48 (by decide) ?_
      cases h
      exact go_zret dX12_isCompared_52 rfl (Or.inr rfl) hK
set_option maxRecDepth 20000 in
set_option maxHeartbeats 4000000 in
theorem cmX12_isCompared (w : go_Wd) (tx : Nat) (Q : Option Value → go_M → Prop) (μ : PM)  (out : Int32) (h : fX12_isCompared μ = some out) (hK : Q (some (.int out)) (go_mk tx μ)) : Go w 1 0 0 mtX12_isCompared 0 [(0, .ref 401)] [] (go_mk tx μ) (go_Z w Q) := by
  unfold fX12_isCompared at h
  refine go_aload_n dX12_isCompared_0 0 rfl ?_
  refine pp_getI dX12_isCompared_1 ff_X12_152 (by decide) sh_401 ?_
  refine go_iconst (v := 1) dX12_isCompared_4 (by decide) ?_
  refine go_isub dX12_isCompared_5 ?_
  obtain ⟨x1, hx1, h⟩ := go_let_e h
  refine go_top hx1 ?_
  refine go_istore_n dX12_isCompared_6 (by decide) rfl ?_
  show Go w 1 0 0 mtX12_isCompared 7 [(1, .int x1), (0, .ref 401)] [] (go_mk tx μ) (go_Z w Q)
  obtain ⟨ρ3, hρ3, h⟩ := go_bind h
  refine go_pick [1, 0] rfl ?_
  refine go_lp (G := ggX12_isCompared_7 w tx Q μ  ) (E := eeX12_isCompared_7 w tx Q μ  ) (fun s out h hK => lqX12_isCompared_7 w tx Q μ    s out h hK) go_fuel x1 ρ3 hρ3 ?_
  rcases ρ3 with e4 | y
  · have h := go_csl h
    show Go w 1 0 0 mtX12_isCompared 30 [(0, .ref 401), (1, .int e4)] [] (go_mk tx μ) (go_Z w Q)
    refine go_pick [0, 1] rfl ?_
    exact jqX12_isCompared_30 w tx Q μ  e4    _ h hK
  · have h := go_csr h
    cases h
    exact hK
theorem ctX12_isCompared {w : go_Wd} {tx : Nat} {μ : PM}  {r : Int32}  (h : fX12_isCompared μ = some r) : Ct w 1 0 0 mtX12_isCompared [.ref 401] (go_mk tx μ) (fun r' M' => r' = some (.int r) ∧ M' = go_mk tx μ) :=
  go_entry rfl (by decide) (Nat.le_of_ble_eq_true rfl) (cmX12_isCompared w tx _ μ  _ h ⟨rfl, rfl⟩)
def fX12_isAskAhead (μ : PM)  : Option (Int32) :=
  (fX12_openNow μ).bind fun q1 => (if q1 = 42 then go_chk ((μ.1 401 16) - 1) 160 <| (if 40 ≤ (μ.1 406 (((μ.1 401 16) - 1) : Int32).toNatClampNeg) then some (1) else go_chk ((μ.1 401 16) - 1) 160 <| (if (fX12_isIn (fX12_rank (μ.1 406 (((μ.1 401 16) - 1) : Int32).toNatClampNeg)) 1 3) = 0 then some (0) else some (1))) else some (0))
set_option maxRecDepth 20000 in
set_option maxHeartbeats 4000000 in
theorem cmX12_isAskAhead (w : go_Wd) (tx : Nat) (Q : Option Value → go_M → Prop) (μ : PM)  (out : Int32) (h : fX12_isAskAhead μ = some out) (hK : Q (some (.int out)) (go_mk tx μ)) : Go w 2 0 0 mtX12_isAskAhead 0 [(0, .ref 401)] [] (go_mk tx μ) (go_Z w Q) := by
  unfold fX12_isAskAhead at h
  refine go_aload_n dX12_isAskAhead_0 0 rfl ?_
  obtain ⟨q1, hq1, h⟩ := go_bind h
  refine pp_callV (as := []) (st := []) (rv := (some (.int q1))) (μ1 := μ) (st1 := [.int q1]) dX12_isAskAhead_1 ll_X12_169 sh_401 (by decide) rfl (ctX12_openNow  hq1) rfl (Nat.le_of_ble_eq_true rfl) (Nat.le_of_ble_eq_true rfl) (go_Z_up w _) rfl rfl ?_
  refine go_bipush (v := 42) dX12_isAskAhead_4 (by decide) ?_
  refine go_icmp_ne 51 dX12_isAskAhead_6 (by decide) (fun hc => ?_) (fun hc => ?_)
  · have h := go_ifn hc h
    refine go_iconst (v := 0) dX12_isAskAhead_51 (by decide) ?_
    cases h
    exact go_zret dX12_isAskAhead_52 rfl (Or.inl rfl) hK
  · have h := go_ifp hc h
    refine go_aload_n dX12_isAskAhead_9 0 rfl ?_
    refine pp_getR dX12_isAskAhead_10 ff_X12_29 (Or.inr ⟨_, rfl⟩) sh_401 rf_401_15 ?_
    refine go_aload_n dX12_isAskAhead_13 0 rfl ?_
    refine pp_getI dX12_isAskAhead_14 ff_X12_152 (by decide) sh_401 ?_
    refine go_iconst (v := 1) dX12_isAskAhead_17 (by decide) ?_
    refine go_isub dX12_isAskAhead_18 ?_
    obtain ⟨hz2, h⟩ := go_chk_e h
    refine pp_ild dX12_isAskAhead_19 sh_406 hz2 ?_
    refine go_bipush (v := 40) dX12_isAskAhead_20 (by decide) ?_
    refine go_icmp_ge 47 dX12_isAskAhead_22 (by decide) (fun hc => ?_) (fun hc => ?_)
    · have h := go_ifp hc h
      refine go_iconst (v := 1) dX12_isAskAhead_47 (by decide) ?_
      refine go_goto 52 dX12_isAskAhead_48 (by decide) ?_
      cases h
      exact go_zret dX12_isAskAhead_52 rfl (Or.inr rfl) hK
    · have h := go_ifn hc h
      refine go_aload_n dX12_isAskAhead_25 0 rfl ?_
      refine pp_getR dX12_isAskAhead_26 ff_X12_29 (Or.inr ⟨_, rfl⟩) sh_401 rf_401_15 ?_
      refine go_aload_n dX12_isAskAhead_29 0 rfl ?_
      refine pp_getI dX12_isAskAhead_30 ff_X12_152 (by decide) sh_401 ?_
      refine go_iconst (v := 1) dX12_isAskAhead_33 (by decide) ?_
      refine go_isub dX12_isAskAhead_34 ?_
      obtain ⟨hz3, h⟩ := go_chk_e h
      refine pp_ild dX12_isAskAhead_35 sh_406 hz3 ?_
      refine pp_callS (as := [.int (μ.1 406 (((μ.1 401 16) - 1) : Int32).toNatClampNeg)]) (st := []) (rv := (some (.int (fX12_rank (μ.1 406 (((μ.1 401 16) - 1) : Int32).toNatClampNeg))))) (μ1 := μ) (st1 := [.int (fX12_rank (μ.1 406 (((μ.1 401 16) - 1) : Int32).toNatClampNeg))]) dX12_isAskAhead_36 ll_X12_155 (ctX12_rank  rfl) rfl (Nat.le_of_ble_eq_true rfl) (Nat.le_of_ble_eq_true rfl) (go_Z_up w _) rfl rfl ?_
      refine go_iconst (v := 1) dX12_isAskAhead_39 (by decide) ?_
      refine go_iconst (v := 3) dX12_isAskAhead_40 (by decide) ?_
      refine pp_callS (as := [.int (fX12_rank (μ.1 406 (((μ.1 401 16) - 1) : Int32).toNatClampNeg)), .int 1, .int 3]) (st := []) (rv := (some (.int (fX12_isIn (fX12_rank (μ.1 406 (((μ.1 401 16) - 1) : Int32).toNatClampNeg)) 1 3)))) (μ1 := μ) (st1 := [.int (fX12_isIn (fX12_rank (μ.1 406 (((μ.1 401 16) - 1) : Int32).toNatClampNeg)) 1 3)]) dX12_isAskAhead_41 ll_X12_63 (ctX12_isIn  rfl) rfl (Nat.le_of_ble_eq_true rfl) (Nat.le_of_ble_eq_true rfl) (go_Z_up w _) rfl rfl ?_
      refine go_if_eq 51 dX12_isAskAhead_44 (by decide) (fun hc => ?_) (fun hc => ?_)
      · have h := go_ifp hc h
        refine go_iconst (v := 0) dX12_isAskAhead_51 (by decide) ?_
        cases h
        exact go_zret dX12_isAskAhead_52 rfl (Or.inl rfl) hK
      · have h := go_ifn hc h
        refine go_iconst (v := 1) dX12_isAskAhead_47 (by decide) ?_
        refine go_goto 52 dX12_isAskAhead_48 (by decide) ?_
        cases h
        exact go_zret dX12_isAskAhead_52 rfl (Or.inr rfl) hK
theorem ctX12_isAskAhead {w : go_Wd} {tx : Nat} {μ : PM}  {r : Int32}  (h : fX12_isAskAhead μ = some r) : Ct w 2 0 0 mtX12_isAskAhead [.ref 401] (go_mk tx μ) (fun r' M' => r' = some (.int r) ∧ M' = go_mk tx μ) :=
  go_entry rfl (by decide) (Nat.le_of_ble_eq_true rfl) (cmX12_isAskAhead w tx _ μ  _ h ⟨rfl, rfl⟩)
def fX12_opened (μ : PM) (a0 : Int32) : Option (Int32 × PM) :=
  (if (μ.1 401 17) = 8 then some ((3, μ)) else go_let (pm_wi μ 401 17 ((μ.1 401 17) + 1)) fun μ1 => go_chk (μ1.1 401 16) 160 <| go_let (pm_wi μ1 406 ((μ1.1 401 16) : Int32).toNatClampNeg a0) fun μ2 => go_let (pm_wi μ2 401 16 ((μ2.1 401 16) + 1)) fun μ4 => (fX12_nextToken μ4).bind fun q5 => some ((0, q5)))
set_option maxRecDepth 20000 in
set_option maxHeartbeats 4000000 in
theorem cmX12_opened (w : go_Wd) (tx : Nat) (Q : Option Value → go_M → Prop) (μ : PM) (a0 : Int32) (out : Int32 × PM) (h : fX12_opened μ a0 = some out) (hK : Q (some (.int out.1)) (go_mk tx out.2)) : Go w 2 0 0 mtX12_opened 0 [(0, .ref 401), (1, .int a0)] [] (go_mk tx μ) (go_Z w Q) := by
  unfold fX12_opened at h
  refine go_aload_n dX12_opened_0 0 rfl ?_
  refine pp_getI dX12_opened_1 ff_X12_162 (by decide) sh_401 ?_
  refine go_bipush (v := 8) dX12_opened_4 (by decide) ?_
  refine go_icmp_ne 11 dX12_opened_6 (by decide) (fun hc => ?_) (fun hc => ?_)
  · have h := go_ifn hc h
    refine go_aload_n dX12_opened_11 0 rfl ?_
    refine go_dup dX12_opened_12 rfl ?_
    refine pp_getI dX12_opened_13 ff_X12_162 (by decide) sh_401 ?_
    refine go_iconst (v := 1) dX12_opened_16 (by decide) ?_
    refine go_iadd dX12_opened_17 ?_
    obtain ⟨μ1, hμ1, h⟩ := go_let_e h
    refine pp_putI dX12_opened_18 ff_X12_162 (Or.inl rfl) sh_401 hμ1 ?_
    refine go_aload_n dX12_opened_21 0 rfl ?_
    refine pp_getR dX12_opened_22 ff_X12_29 (Or.inr ⟨_, rfl⟩) sh_401 rf_401_15 ?_
    refine go_aload_n dX12_opened_25 0 rfl ?_
    refine pp_getI dX12_opened_26 ff_X12_152 (by decide) sh_401 ?_
    refine go_iload_n dX12_opened_29 1 rfl ?_
    obtain ⟨hz3, h⟩ := go_chk_e h
    obtain ⟨μ2, hμ2, h⟩ := go_let_e h
    refine pp_ist dX12_opened_30 sh_406 hz3 hμ2 ?_
    refine go_aload_n dX12_opened_31 0 rfl ?_
    refine go_dup dX12_opened_32 rfl ?_
    refine pp_getI dX12_opened_33 ff_X12_152 (by decide) sh_401 ?_
    refine go_iconst (v := 1) dX12_opened_36 (by decide) ?_
    refine go_iadd dX12_opened_37 ?_
    obtain ⟨μ4, hμ4, h⟩ := go_let_e h
    refine pp_putI dX12_opened_38 ff_X12_152 (Or.inl rfl) sh_401 hμ4 ?_
    refine go_aload_n dX12_opened_41 0 rfl ?_
    obtain ⟨q5, hq5, h⟩ := go_bind h
    refine pp_callV (as := []) (st := []) (rv := none) (μ1 := q5) (st1 := []) dX12_opened_42 ll_X12_172 sh_401 (by decide) rfl (ctX12_nextToken  hq5) rfl (Nat.le_of_ble_eq_true rfl) (Nat.le_of_ble_eq_true rfl) (go_Z_up w _) rfl rfl ?_
    refine go_iconst (v := 0) dX12_opened_45 (by decide) ?_
    cases h
    exact go_iret dX12_opened_46 rfl hK
  · have h := go_ifp hc h
    refine go_iconst (v := 3) dX12_opened_9 (by decide) ?_
    cases h
    exact go_iret dX12_opened_10 rfl hK
theorem ctX12_opened {w : go_Wd} {tx : Nat} {μ : PM} {a0 : Int32} {r : Int32} {μ1 : PM}  (h : fX12_opened μ a0 = some (r, μ1)) : Ct w 2 0 0 mtX12_opened [.ref 401, .int a0] (go_mk tx μ) (fun r' M' => r' = some (.int r) ∧ M' = go_mk tx μ1) :=
  go_entry rfl (by decide) (Nat.le_of_ble_eq_true rfl) (cmX12_opened w tx _ μ a0 _ h ⟨rfl, rfl⟩)
def fX12_endOne (μ : PM)  : Option (Int32 × PM) :=
  (fX12_settle μ 7).bind fun q1 => go_let (pm_wi q1 401 18 1) fun μ2 => (if (μ2.1 401 16) = 0 then some ((0, μ2)) else go_chk ((μ2.1 401 16) - 1) 160 <| (if (μ2.1 406 (((μ2.1 401 16) - 1) : Int32).toNatClampNeg) = 41 then (if (fX12_isWord μ2 (fX12_w2 111 102)) = 0 then some ((1, μ2)) else (fX12_nextToken μ2).bind fun q4 => go_chk ((q4.1 401 16) - 1) 160 <| go_let (pm_wi q4 406 (((q4.1 401 16) - 1) : Int32).toNatClampNeg 4) fun μ5 => go_let (pm_wi μ5 401 18 0) fun μ7 => some ((0, μ7))) else some ((0, μ2))))
set_option maxRecDepth 20000 in
set_option maxHeartbeats 4000000 in
theorem cmX12_endOne (w : go_Wd) (tx : Nat) (Q : Option Value → go_M → Prop) (μ : PM)  (out : Int32 × PM) (h : fX12_endOne μ = some out) (hK : Q (some (.int out.1)) (go_mk tx out.2)) : Go w 2 0 0 mtX12_endOne 0 [(0, .ref 401)] [] (go_mk tx μ) (go_Z w Q) := by
  unfold fX12_endOne at h
  refine go_aload_n dX12_endOne_0 0 rfl ?_
  refine go_bipush (v := 7) dX12_endOne_1 (by decide) ?_
  obtain ⟨q1, hq1, h⟩ := go_bind h
  refine pp_callV (as := [.int 7]) (st := []) (rv := none) (μ1 := q1) (st1 := []) dX12_endOne_3 ll_X12_195 sh_401 (by decide) rfl (ctX12_settle  hq1) rfl (Nat.le_of_ble_eq_true rfl) (Nat.le_of_ble_eq_true rfl) (go_Z_up w _) rfl rfl ?_
  refine go_aload_n dX12_endOne_6 0 rfl ?_
  refine go_iconst (v := 1) dX12_endOne_7 (by decide) ?_
  obtain ⟨μ2, hμ2, h⟩ := go_let_e h
  refine pp_putI dX12_endOne_8 ff_X12_198 (Or.inr ⟨rfl, (Or.inr rfl)⟩) sh_401 hμ2 ?_
  refine go_aload_n dX12_endOne_11 0 rfl ?_
  refine pp_getI dX12_endOne_12 ff_X12_152 (by decide) sh_401 ?_
  refine go_if_eq 34 dX12_endOne_15 (by decide) (fun hc => ?_) (fun hc => ?_)
  · have h := go_ifp hc h
    refine go_iconst (v := 0) dX12_endOne_34 (by decide) ?_
    cases h
    exact go_iret dX12_endOne_35 rfl hK
  · have h := go_ifn hc h
    refine go_aload_n dX12_endOne_18 0 rfl ?_
    refine pp_getR dX12_endOne_19 ff_X12_29 (Or.inr ⟨_, rfl⟩) sh_401 rf_401_15 ?_
    refine go_aload_n dX12_endOne_22 0 rfl ?_
    refine pp_getI dX12_endOne_23 ff_X12_152 (by decide) sh_401 ?_
    refine go_iconst (v := 1) dX12_endOne_26 (by decide) ?_
    refine go_isub dX12_endOne_27 ?_
    obtain ⟨hz3, h⟩ := go_chk_e h
    refine pp_ild dX12_endOne_28 sh_406 hz3 ?_
    refine go_bipush (v := 41) dX12_endOne_29 (by decide) ?_
    refine go_icmp_eq 36 dX12_endOne_31 (by decide) (fun hc => ?_) (fun hc => ?_)
    · have h := go_ifp hc h
      refine go_aload_n dX12_endOne_36 0 rfl ?_
      refine go_bipush (v := 111) dX12_endOne_37 (by decide) ?_
      refine go_bipush (v := 102) dX12_endOne_39 (by decide) ?_
      refine pp_callS (as := [.int 111, .int 102]) (st := [.ref 401]) (rv := (some (.long (fX12_w2 111 102)))) (μ1 := μ2) (st1 := [.long (fX12_w2 111 102), .ref 401]) dX12_endOne_41 ll_X12_123 (ctX12_w2  rfl) rfl (Nat.le_of_ble_eq_true rfl) (Nat.le_of_ble_eq_true rfl) (go_Z_up w _) rfl rfl ?_
      refine pp_callV (as := [.long (fX12_w2 111 102)]) (st := []) (rv := (some (.int (fX12_isWord μ2 (fX12_w2 111 102))))) (μ1 := μ2) (st1 := [.int (fX12_isWord μ2 (fX12_w2 111 102))]) dX12_endOne_44 ll_X12_187 sh_401 (by decide) rfl (ctX12_isWord  rfl) rfl (Nat.le_of_ble_eq_true rfl) (Nat.le_of_ble_eq_true rfl) (go_Z_up w _) rfl rfl ?_
      refine go_if_ne 52 dX12_endOne_47 (by decide) (fun hc => ?_) (fun hc => ?_)
      · have h := go_ifn hc h
        refine go_aload_n dX12_endOne_52 0 rfl ?_
        obtain ⟨q4, hq4, h⟩ := go_bind h
        refine pp_callV (as := []) (st := []) (rv := none) (μ1 := q4) (st1 := []) dX12_endOne_53 ll_X12_172 sh_401 (by decide) rfl (ctX12_nextToken  hq4) rfl (Nat.le_of_ble_eq_true rfl) (Nat.le_of_ble_eq_true rfl) (go_Z_up w _) rfl rfl ?_
        refine go_aload_n dX12_endOne_56 0 rfl ?_
        refine pp_getR dX12_endOne_57 ff_X12_29 (Or.inr ⟨_, rfl⟩) sh_401 rf_401_15 ?_
        refine go_aload_n dX12_endOne_60 0 rfl ?_
        refine pp_getI dX12_endOne_61 ff_X12_152 (by decide) sh_401 ?_
        refine go_iconst (v := 1) dX12_endOne_64 (by decide) ?_
        refine go_isub dX12_endOne_65 ?_
        refine go_iconst (v := 4) dX12_endOne_66 (by decide) ?_
        obtain ⟨hz6, h⟩ := go_chk_e h
        obtain ⟨μ5, hμ5, h⟩ := go_let_e h
        refine pp_ist dX12_endOne_67 sh_406 hz6 hμ5 ?_
        refine go_aload_n dX12_endOne_68 0 rfl ?_
        refine go_iconst (v := 0) dX12_endOne_69 (by decide) ?_
        obtain ⟨μ7, hμ7, h⟩ := go_let_e h
        refine pp_putI dX12_endOne_70 ff_X12_198 (Or.inr ⟨rfl, (Or.inl rfl)⟩) sh_401 hμ7 ?_
        refine go_iconst (v := 0) dX12_endOne_73 (by decide) ?_
        cases h
        exact go_iret dX12_endOne_74 rfl hK
      · have h := go_ifp hc h
        refine go_iconst (v := 1) dX12_endOne_50 (by decide) ?_
        cases h
        exact go_iret dX12_endOne_51 rfl hK
    · have h := go_ifn hc h
      refine go_iconst (v := 0) dX12_endOne_34 (by decide) ?_
      cases h
      exact go_iret dX12_endOne_35 rfl hK
theorem ctX12_endOne {w : go_Wd} {tx : Nat} {μ : PM}  {r : Int32} {μ1 : PM}  (h : fX12_endOne μ = some (r, μ1)) : Ct w 2 0 0 mtX12_endOne [.ref 401] (go_mk tx μ) (fun r' M' => r' = some (.int r) ∧ M' = go_mk tx μ1) :=
  go_entry rfl (by decide) (Nat.le_of_ble_eq_true rfl) (cmX12_endOne w tx _ μ  _ h ⟨rfl, rfl⟩)
def jjX12_beginOne_81 (μ : PM)   (s1 : Int32) (s2 : Int32) : Option (Int32 × PM) :=
  (fX12_emit μ s1 s2).bind fun q2 => (fX12_nextToken q2).bind fun q3 => (fX12_endOne q3).bind fun q4 => some ((q4.1, q4.2))
def jjX12_beginOne_65 (μ : PM)  (v1 : Int32) (s1 : Int32) : Option (Int32 × PM) :=
  (if (μ.1 401 9) = 1 then jjX12_beginOne_81 μ s1 ((μ.1 401 10)) else jjX12_beginOne_81 μ s1 v1)
def jjX12_beginOne_51 (μ : PM)  (v1 : Int32)  : Option (Int32 × PM) :=
  (if (μ.1 401 9) = 1 then jjX12_beginOne_65 μ v1 0 else jjX12_beginOne_65 μ v1 1)
def jjX12_beginOne_39 (μ : PM)  (v1 : Int32)  : Option (Int32 × PM) :=
  (if (μ.1 401 9) = 1 then jjX12_beginOne_51 μ v1 else (if v1 < 0 then (if (μ.1 401 9) = 40 then (fX12_opened μ 40).bind fun q11 => some ((q11.1, q11.2)) else (if (μ.1 401 9) = 45 then (fX12_opened μ 5).bind fun q10 => some ((q10.1, q10.2)) else (if (fX12_isWord μ (fX12_w5 100 105 103 105 116)) = 0 then (if (fX12_isWord μ (fX12_w3 105 99 101)) = 0 then (if (fX12_isWord μ (fX12_w2 105 102)) = 0 then (if (fX12_isWord μ (fX12_w3 110 111 116)) = 0 then some ((1, μ)) else (fX12_isAskAhead μ).bind fun q5 => (if q5 = 0 then some ((1, μ)) else (fX12_opened μ 20).bind fun q6 => some ((q6.1, q6.2)))) else (fX12_opened μ 42).bind fun q7 => some ((q7.1, q7.2))) else (fX12_opened μ 2).bind fun q8 => some ((q8.1, q8.2))) else (fX12_opened μ 41).bind fun q9 => some ((q9.1, q9.2))))) else jjX12_beginOne_51 μ v1))
def jjX12_beginOne_20 (μ : PM)    : Option (Int32 × PM) :=
  go_let ((fX12_nameOf μ)) fun x1 => (if x1 < 0 then jjX12_beginOne_39 μ x1 else (if (fX12_isOf μ x1) = 0 then some ((5, μ)) else jjX12_beginOne_39 μ x1))
def fX12_beginOne (μ : PM)  : Option (Int32 × PM) :=
  (if (μ.1 401 9) = 1 then (if (μ.1 401 10) ≤ 9999 then jjX12_beginOne_20 μ else some ((2, μ))) else jjX12_beginOne_20 μ)
set_option maxRecDepth 20000 in
set_option maxHeartbeats 4000000 in
theorem jqX12_beginOne_81 (w : go_Wd) (tx : Nat) (Q : Option Value → go_M → Prop) (μ : PM)    (s1 : Int32) (s2 : Int32)  (out : Int32 × PM) (h : jjX12_beginOne_81 μ  s1 s2 = some out) (hK : Q (some (.int out.1)) (go_mk tx out.2)) : Go w 6 0 0 mtX12_beginOne 81 [(0, .ref 401)] [.int s2, .int s1, .ref 401] (go_mk tx μ) (go_Z w Q) := by
  unfold jjX12_beginOne_81 at h
  obtain ⟨q2, hq2, h⟩ := go_bind h
  refine pp_callV (as := [.int s1, .int s2]) (st := []) (rv := none) (μ1 := q2) (st1 := []) dX12_beginOne_81 ll_X12_158 sh_401 (by decide) rfl (ctX12_emit  hq2) rfl (Nat.le_of_ble_eq_true rfl) (Nat.le_of_ble_eq_true rfl) (go_Z_up w _) rfl rfl ?_
  refine go_aload_n dX12_beginOne_84 0 rfl ?_
  obtain ⟨q3, hq3, h⟩ := go_bind h
  refine pp_callV (as := []) (st := []) (rv := none) (μ1 := q3) (st1 := []) dX12_beginOne_85 ll_X12_172 sh_401 (by decide) rfl (ctX12_nextToken  hq3) rfl (Nat.le_of_ble_eq_true rfl) (Nat.le_of_ble_eq_true rfl) (go_Z_up w _) rfl rfl ?_
  refine go_aload_n dX12_beginOne_88 0 rfl ?_
  obtain ⟨q4, hq4, h⟩ := go_bind h
  refine pp_callV (as := []) (st := []) (rv := (some (.int q4.1))) (μ1 := q4.2) (st1 := [.int q4.1]) dX12_beginOne_89 ll_X12_181 sh_401 (by decide) rfl (ctX12_endOne  hq4) rfl (Nat.le_of_ble_eq_true rfl) (Nat.le_of_ble_eq_true rfl) (go_Z_up w _) rfl rfl ?_
  cases h
  exact go_iret dX12_beginOne_92 rfl hK
set_option maxRecDepth 20000 in
set_option maxHeartbeats 4000000 in
theorem jqX12_beginOne_65 (w : go_Wd) (tx : Nat) (Q : Option Value → go_M → Prop) (μ : PM)  (v1 : Int32)  (s1 : Int32) (hs1 : s1 = 0 ∨ s1 = 1) (out : Int32 × PM) (h : jjX12_beginOne_65 μ v1 s1 = some out) (hK : Q (some (.int out.1)) (go_mk tx out.2)) : Go w 6 0 0 mtX12_beginOne 65 [(0, .ref 401), (1, .int v1)] [.int s1, .ref 401] (go_mk tx μ) (go_Z w Q) := by
  unfold jjX12_beginOne_65 at h
  refine go_aload_n dX12_beginOne_65 0 rfl ?_
  refine pp_getI dX12_beginOne_66 ff_X12_102 (by decide) sh_401 ?_
  refine go_iconst (v := 1) dX12_beginOne_69 (by decide) ?_
  refine go_icmp_ne 80 dX12_beginOne_70 (by decide) (fun hc => ?_) (fun hc => ?_)
  · have h := go_ifn hc h
    refine go_iload_n dX12_beginOne_80 1 rfl ?_
    refine go_pick [0] rfl ?_
    exact jqX12_beginOne_81 w tx Q μ    s1 v1  _ h hK
  · have h := go_ifp hc h
    refine go_aload_n dX12_beginOne_73 0 rfl ?_
    refine pp_getI dX12_beginOne_74 ff_X12_108 (by decide) sh_401 ?_
    refine go_goto 81 dX12_beginOne_77 (by decide) ?_
    refine go_pick [0] rfl ?_
    exact jqX12_beginOne_81 w tx Q μ    s1 ((μ.1 401 10))  _ h hK
set_option maxRecDepth 20000 in
set_option maxHeartbeats 4000000 in
theorem jqX12_beginOne_51 (w : go_Wd) (tx : Nat) (Q : Option Value → go_M → Prop) (μ : PM)  (v1 : Int32)    (out : Int32 × PM) (h : jjX12_beginOne_51 μ v1  = some out) (hK : Q (some (.int out.1)) (go_mk tx out.2)) : Go w 6 0 0 mtX12_beginOne 51 [(0, .ref 401), (1, .int v1)] [] (go_mk tx μ) (go_Z w Q) := by
  unfold jjX12_beginOne_51 at h
  refine go_aload_n dX12_beginOne_51 0 rfl ?_
  refine go_aload_n dX12_beginOne_52 0 rfl ?_
  refine pp_getI dX12_beginOne_53 ff_X12_102 (by decide) sh_401 ?_
  refine go_iconst (v := 1) dX12_beginOne_56 (by decide) ?_
  refine go_icmp_ne 64 dX12_beginOne_57 (by decide) (fun hc => ?_) (fun hc => ?_)
  · have h := go_ifn hc h
    refine go_iconst (v := 1) dX12_beginOne_64 (by decide) ?_
    refine go_pick [0, 1] rfl ?_
    exact jqX12_beginOne_65 w tx Q μ  v1  1 (Or.inr rfl) _ h hK
  · have h := go_ifp hc h
    refine go_iconst (v := 0) dX12_beginOne_60 (by decide) ?_
    refine go_goto 65 dX12_beginOne_61 (by decide) ?_
    refine go_pick [0, 1] rfl ?_
    exact jqX12_beginOne_65 w tx Q μ  v1  0 (Or.inl rfl) _ h hK
set_option maxRecDepth 20000 in
set_option maxHeartbeats 4000000 in
theorem jqX12_beginOne_39 (w : go_Wd) (tx : Nat) (Q : Option Value → go_M → Prop) (μ : PM)  (v1 : Int32)    (out : Int32 × PM) (h : jjX12_beginOne_39 μ v1  = some out) (hK : Q (some (.int out.1)) (go_mk tx out.2)) : Go w 6 0 0 mtX12_beginOne 39 [(0, .ref 401), (1, .int v1)] [] (go_mk tx μ) (go_Z w Q) := by
  unfold jjX12_beginOne_39 at h
  refine go_aload_n dX12_beginOne_39 0 rfl ?_
  refine pp_getI dX12_beginOne_40 ff_X12_102 (by decide) sh_401 ?_
  refine go_iconst (v := 1) dX12_beginOne_43 (by decide) ?_
  refine go_icmp_eq 51 dX12_beginOne_44 (by decide) (fun hc => ?_) (fun hc => ?_)
  · have h := go_ifp hc h
    refine go_pick [0, 1] rfl ?_
    exact jqX12_beginOne_51 w tx Q μ  v1    _ h hK
  · have h := go_ifn hc h
    refine go_iload_n dX12_beginOne_47 1 rfl ?_
    refine go_if_lt 93 dX12_beginOne_48 (by decide) (fun hc => ?_) (fun hc => ?_)
    · have h := go_ifp hc h
      refine go_aload_n dX12_beginOne_93 0 rfl ?_
      refine pp_getI dX12_beginOne_94 ff_X12_102 (by decide) sh_401 ?_
      refine go_bipush (v := 40) dX12_beginOne_97 (by decide) ?_
      refine go_icmp_ne 109 dX12_beginOne_99 (by decide) (fun hc => ?_) (fun hc => ?_)
      · have h := go_ifn hc h
        refine go_aload_n dX12_beginOne_109 0 rfl ?_
        refine pp_getI dX12_beginOne_110 ff_X12_102 (by decide) sh_401 ?_
        refine go_bipush (v := 45) dX12_beginOne_113 (by decide) ?_
        refine go_icmp_ne 124 dX12_beginOne_115 (by decide) (fun hc => ?_) (fun hc => ?_)
        · have h := go_ifn hc h
          refine go_aload_n dX12_beginOne_124 0 rfl ?_
          refine go_bipush (v := 100) dX12_beginOne_125 (by decide) ?_
          refine go_bipush (v := 105) dX12_beginOne_127 (by decide) ?_
          refine go_bipush (v := 103) dX12_beginOne_129 (by decide) ?_
          refine go_bipush (v := 105) dX12_beginOne_131 (by decide) ?_
          refine go_bipush (v := 116) dX12_beginOne_133 (by decide) ?_
          refine pp_callS (as := [.int 100, .int 105, .int 103, .int 105, .int 116]) (st := [.ref 401]) (rv := (some (.long (fX12_w5 100 105 103 105 116)))) (μ1 := μ) (st1 := [.long (fX12_w5 100 105 103 105 116), .ref 401]) dX12_beginOne_135 ll_X12_135 (ctX12_w5  rfl) rfl (Nat.le_of_ble_eq_true rfl) (Nat.le_of_ble_eq_true rfl) (go_Z_up w _) rfl rfl ?_
          refine pp_callV (as := [.long (fX12_w5 100 105 103 105 116)]) (st := []) (rv := (some (.int (fX12_isWord μ (fX12_w5 100 105 103 105 116))))) (μ1 := μ) (st1 := [.int (fX12_isWord μ (fX12_w5 100 105 103 105 116))]) dX12_beginOne_138 ll_X12_187 sh_401 (by decide) rfl (ctX12_isWord  rfl) rfl (Nat.le_of_ble_eq_true rfl) (Nat.le_of_ble_eq_true rfl) (go_Z_up w _) rfl rfl ?_
          refine go_if_eq 151 dX12_beginOne_141 (by decide) (fun hc => ?_) (fun hc => ?_)
          · have h := go_ifp hc h
            refine go_aload_n dX12_beginOne_151 0 rfl ?_
            refine go_bipush (v := 105) dX12_beginOne_152 (by decide) ?_
            refine go_bipush (v := 99) dX12_beginOne_154 (by decide) ?_
            refine go_bipush (v := 101) dX12_beginOne_156 (by decide) ?_
            refine pp_callS (as := [.int 105, .int 99, .int 101]) (st := [.ref 401]) (rv := (some (.long (fX12_w3 105 99 101)))) (μ1 := μ) (st1 := [.long (fX12_w3 105 99 101), .ref 401]) dX12_beginOne_158 ll_X12_127 (ctX12_w3  rfl) rfl (Nat.le_of_ble_eq_true rfl) (Nat.le_of_ble_eq_true rfl) (go_Z_up w _) rfl rfl ?_
            refine pp_callV (as := [.long (fX12_w3 105 99 101)]) (st := []) (rv := (some (.int (fX12_isWord μ (fX12_w3 105 99 101))))) (μ1 := μ) (st1 := [.int (fX12_isWord μ (fX12_w3 105 99 101))]) dX12_beginOne_161 ll_X12_187 sh_401 (by decide) rfl (ctX12_isWord  rfl) rfl (Nat.le_of_ble_eq_true rfl) (Nat.le_of_ble_eq_true rfl) (go_Z_up w _) rfl rfl ?_
            refine go_if_eq 173 dX12_beginOne_164 (by decide) (fun hc => ?_) (fun hc => ?_)
            · have h := go_ifp hc h
              refine go_aload_n dX12_beginOne_173 0 rfl ?_
              refine go_bipush (v := 105) dX12_beginOne_174 (by decide) ?_
              refine go_bipush (v := 102) dX12_beginOne_176 (by decide) ?_
              refine pp_callS (as := [.int 105, .int 102]) (st := [.ref 401]) (rv := (some (.long (fX12_w2 105 102)))) (μ1 := μ) (st1 := [.long (fX12_w2 105 102), .ref 401]) dX12_beginOne_178 ll_X12_123 (ctX12_w2  rfl) rfl (Nat.le_of_ble_eq_true rfl) (Nat.le_of_ble_eq_true rfl) (go_Z_up w _) rfl rfl ?_
              refine pp_callV (as := [.long (fX12_w2 105 102)]) (st := []) (rv := (some (.int (fX12_isWord μ (fX12_w2 105 102))))) (μ1 := μ) (st1 := [.int (fX12_isWord μ (fX12_w2 105 102))]) dX12_beginOne_181 ll_X12_187 sh_401 (by decide) rfl (ctX12_isWord  rfl) rfl (Nat.le_of_ble_eq_true rfl) (Nat.le_of_ble_eq_true rfl) (go_Z_up w _) rfl rfl ?_
              refine go_if_eq 194 dX12_beginOne_184 (by decide) (fun hc => ?_) (fun hc => ?_)
              · have h := go_ifp hc h
                refine go_aload_n dX12_beginOne_194 0 rfl ?_
                refine go_bipush (v := 110) dX12_beginOne_195 (by decide) ?_
                refine go_bipush (v := 111) dX12_beginOne_197 (by decide) ?_
                refine go_bipush (v := 116) dX12_beginOne_199 (by decide) ?_
                refine pp_callS (as := [.int 110, .int 111, .int 116]) (st := [.ref 401]) (rv := (some (.long (fX12_w3 110 111 116)))) (μ1 := μ) (st1 := [.long (fX12_w3 110 111 116), .ref 401]) dX12_beginOne_201 ll_X12_127 (ctX12_w3  rfl) rfl (Nat.le_of_ble_eq_true rfl) (Nat.le_of_ble_eq_true rfl) (go_Z_up w _) rfl rfl ?_
                refine pp_callV (as := [.long (fX12_w3 110 111 116)]) (st := []) (rv := (some (.int (fX12_isWord μ (fX12_w3 110 111 116))))) (μ1 := μ) (st1 := [.int (fX12_isWord μ (fX12_w3 110 111 116))]) dX12_beginOne_204 ll_X12_187 sh_401 (by decide) rfl (ctX12_isWord  rfl) rfl (Nat.le_of_ble_eq_true rfl) (Nat.le_of_ble_eq_true rfl) (go_Z_up w _) rfl rfl ?_
                refine go_if_eq 226 dX12_beginOne_207 (by decide) (fun hc => ?_) (fun hc => ?_)
                · have h := go_ifp hc h
                  refine go_iconst (v := 1) dX12_beginOne_226 (by decide) ?_
                  cases h
                  exact go_iret dX12_beginOne_227 rfl hK
                · have h := go_ifn hc h
                  refine go_aload_n dX12_beginOne_210 0 rfl ?_
                  obtain ⟨q5, hq5, h⟩ := go_bind h
                  refine pp_callV (as := []) (st := []) (rv := (some (.int q5))) (μ1 := μ) (st1 := [.int q5]) dX12_beginOne_211 ll_X12_191 sh_401 (by decide) rfl (ctX12_isAskAhead  hq5) rfl (Nat.le_of_ble_eq_true rfl) (Nat.le_of_ble_eq_true rfl) (go_Z_up w _) rfl rfl ?_
                  refine go_if_eq 226 dX12_beginOne_214 (by decide) (fun hc => ?_) (fun hc => ?_)
                  · have h := go_ifp hc h
                    refine go_iconst (v := 1) dX12_beginOne_226 (by decide) ?_
                    cases h
                    exact go_iret dX12_beginOne_227 rfl hK
                  · have h := go_ifn hc h
                    refine go_aload_n dX12_beginOne_217 0 rfl ?_
                    refine go_bipush (v := 20) dX12_beginOne_218 (by decide) ?_
                    obtain ⟨q6, hq6, h⟩ := go_bind h
                    refine pp_callV (as := [.int 20]) (st := []) (rv := (some (.int q6.1))) (μ1 := q6.2) (st1 := [.int q6.1]) dX12_beginOne_220 ll_X12_184 sh_401 (by decide) rfl (ctX12_opened  hq6) rfl (Nat.le_of_ble_eq_true rfl) (Nat.le_of_ble_eq_true rfl) (go_Z_up w _) rfl rfl ?_
                    refine go_goto 227 dX12_beginOne_223 (by decide) ?_
                    cases h
                    exact go_iret dX12_beginOne_227 rfl hK
              · have h := go_ifn hc h
                refine go_aload_n dX12_beginOne_187 0 rfl ?_
                refine go_bipush (v := 42) dX12_beginOne_188 (by decide) ?_
                obtain ⟨q7, hq7, h⟩ := go_bind h
                refine pp_callV (as := [.int 42]) (st := []) (rv := (some (.int q7.1))) (μ1 := q7.2) (st1 := [.int q7.1]) dX12_beginOne_190 ll_X12_184 sh_401 (by decide) rfl (ctX12_opened  hq7) rfl (Nat.le_of_ble_eq_true rfl) (Nat.le_of_ble_eq_true rfl) (go_Z_up w _) rfl rfl ?_
                cases h
                exact go_iret dX12_beginOne_193 rfl hK
            · have h := go_ifn hc h
              refine go_aload_n dX12_beginOne_167 0 rfl ?_
              refine go_iconst (v := 2) dX12_beginOne_168 (by decide) ?_
              obtain ⟨q8, hq8, h⟩ := go_bind h
              refine pp_callV (as := [.int 2]) (st := []) (rv := (some (.int q8.1))) (μ1 := q8.2) (st1 := [.int q8.1]) dX12_beginOne_169 ll_X12_184 sh_401 (by decide) rfl (ctX12_opened  hq8) rfl (Nat.le_of_ble_eq_true rfl) (Nat.le_of_ble_eq_true rfl) (go_Z_up w _) rfl rfl ?_
              cases h
              exact go_iret dX12_beginOne_172 rfl hK
          · have h := go_ifn hc h
            refine go_aload_n dX12_beginOne_144 0 rfl ?_
            refine go_bipush (v := 41) dX12_beginOne_145 (by decide) ?_
            obtain ⟨q9, hq9, h⟩ := go_bind h
            refine pp_callV (as := [.int 41]) (st := []) (rv := (some (.int q9.1))) (μ1 := q9.2) (st1 := [.int q9.1]) dX12_beginOne_147 ll_X12_184 sh_401 (by decide) rfl (ctX12_opened  hq9) rfl (Nat.le_of_ble_eq_true rfl) (Nat.le_of_ble_eq_true rfl) (go_Z_up w _) rfl rfl ?_
            cases h
            exact go_iret dX12_beginOne_150 rfl hK
        · have h := go_ifp hc h
          refine go_aload_n dX12_beginOne_118 0 rfl ?_
          refine go_iconst (v := 5) dX12_beginOne_119 (by decide) ?_
          obtain ⟨q10, hq10, h⟩ := go_bind h
          refine pp_callV (as := [.int 5]) (st := []) (rv := (some (.int q10.1))) (μ1 := q10.2) (st1 := [.int q10.1]) dX12_beginOne_120 ll_X12_184 sh_401 (by decide) rfl (ctX12_opened  hq10) rfl (Nat.le_of_ble_eq_true rfl) (Nat.le_of_ble_eq_true rfl) (go_Z_up w _) rfl rfl ?_
          cases h
          exact go_iret dX12_beginOne_123 rfl hK
      · have h := go_ifp hc h
        refine go_aload_n dX12_beginOne_102 0 rfl ?_
        refine go_bipush (v := 40) dX12_beginOne_103 (by decide) ?_
        obtain ⟨q11, hq11, h⟩ := go_bind h
        refine pp_callV (as := [.int 40]) (st := []) (rv := (some (.int q11.1))) (μ1 := q11.2) (st1 := [.int q11.1]) dX12_beginOne_105 ll_X12_184 sh_401 (by decide) rfl (ctX12_opened  hq11) rfl (Nat.le_of_ble_eq_true rfl) (Nat.le_of_ble_eq_true rfl) (go_Z_up w _) rfl rfl ?_
        cases h
        exact go_iret dX12_beginOne_108 rfl hK
    · have h := go_ifn hc h
      refine go_pick [0, 1] rfl ?_
      exact jqX12_beginOne_51 w tx Q μ  v1    _ h hK
set_option maxRecDepth 20000 in
set_option maxHeartbeats 4000000 in
theorem jqX12_beginOne_20 (w : go_Wd) (tx : Nat) (Q : Option Value → go_M → Prop) (μ : PM)      (out : Int32 × PM) (h : jjX12_beginOne_20 μ   = some out) (hK : Q (some (.int out.1)) (go_mk tx out.2)) : Go w 6 0 0 mtX12_beginOne 20 [(0, .ref 401)] [] (go_mk tx μ) (go_Z w Q) := by
  unfold jjX12_beginOne_20 at h
  refine go_aload_n dX12_beginOne_20 0 rfl ?_
  refine pp_callV (as := []) (st := []) (rv := (some (.int (fX12_nameOf μ)))) (μ1 := μ) (st1 := [.int (fX12_nameOf μ)]) dX12_beginOne_21 ll_X12_175 sh_401 (by decide) rfl (ctX12_nameOf  rfl) rfl (Nat.le_of_ble_eq_true rfl) (Nat.le_of_ble_eq_true rfl) (go_Z_up w _) rfl rfl ?_
  obtain ⟨x1, hx1, h⟩ := go_let_e h
  refine go_top hx1 ?_
  refine go_istore_n dX12_beginOne_24 (by decide) rfl ?_
  show Go w 6 0 0 mtX12_beginOne 25 [(1, .int x1), (0, .ref 401)] [] (go_mk tx μ) (go_Z w Q)
  refine go_iload_n dX12_beginOne_25 0 rfl ?_
  refine go_if_lt 39 dX12_beginOne_26 (by decide) (fun hc => ?_) (fun hc => ?_)
  · have h := go_ifp hc h
    refine go_pick [1, 0] rfl ?_
    exact jqX12_beginOne_39 w tx Q μ  x1    _ h hK
  · have h := go_ifn hc h
    refine go_aload_n dX12_beginOne_29 1 rfl ?_
    refine go_iload_n dX12_beginOne_30 0 rfl ?_
    refine pp_callV (as := [.int x1]) (st := []) (rv := (some (.int (fX12_isOf μ x1)))) (μ1 := μ) (st1 := [.int (fX12_isOf μ x1)]) dX12_beginOne_31 ll_X12_178 sh_401 (by decide) rfl (ctX12_isOf  rfl) rfl (Nat.le_of_ble_eq_true rfl) (Nat.le_of_ble_eq_true rfl) (go_Z_up w _) rfl rfl ?_
    refine go_if_ne 39 dX12_beginOne_34 (by decide) (fun hc => ?_) (fun hc => ?_)
    · have h := go_ifn hc h
      refine go_pick [1, 0] rfl ?_
      exact jqX12_beginOne_39 w tx Q μ  x1    _ h hK
    · have h := go_ifp hc h
      refine go_iconst (v := 5) dX12_beginOne_37 (by decide) ?_
      cases h
      exact go_iret dX12_beginOne_38 rfl hK
set_option maxRecDepth 20000 in
set_option maxHeartbeats 4000000 in
theorem cmX12_beginOne (w : go_Wd) (tx : Nat) (Q : Option Value → go_M → Prop) (μ : PM)  (out : Int32 × PM) (h : fX12_beginOne μ = some out) (hK : Q (some (.int out.1)) (go_mk tx out.2)) : Go w 6 0 0 mtX12_beginOne 0 [(0, .ref 401)] [] (go_mk tx μ) (go_Z w Q) := by
  unfold fX12_beginOne at h
  refine go_aload_n dX12_beginOne_0 0 rfl ?_
  refine pp_getI dX12_beginOne_1 ff_X12_102 (by decide) sh_401 ?_
  refine go_iconst (v := 1) dX12_beginOne_4 (by decide) ?_
  refine go_icmp_ne 20 dX12_beginOne_5 (by decide) (fun hc => ?_) (fun hc => ?_)
  · have h := go_ifn hc h
    refine go_pick [0] rfl ?_
    exact jqX12_beginOne_20 w tx Q μ      _ h hK
  · have h := go_ifp hc h
    refine go_aload_n dX12_beginOne_8 0 rfl ?_
    refine pp_getI dX12_beginOne_9 ff_X12_108 (by decide) sh_401 ?_
    refine go_sipush (v := 9999) dX12_beginOne_12 (by decide) ?_
    refine go_icmp_le 20 dX12_beginOne_15 (by decide) (fun hc => ?_) (fun hc => ?_)
    · have h := go_ifp hc h
      refine go_pick [0] rfl ?_
      exact jqX12_beginOne_20 w tx Q μ      _ h hK
    · have h := go_ifn hc h
      refine go_iconst (v := 2) dX12_beginOne_18 (by decide) ?_
      cases h
      exact go_iret dX12_beginOne_19 rfl hK
theorem ctX12_beginOne {w : go_Wd} {tx : Nat} {μ : PM}  {r : Int32} {μ1 : PM}  (h : fX12_beginOne μ = some (r, μ1)) : Ct w 6 0 0 mtX12_beginOne [.ref 401] (go_mk tx μ) (fun r' M' => r' = some (.int r) ∧ M' = go_mk tx μ1) :=
  go_entry rfl (by decide) (Nat.le_of_ble_eq_true rfl) (cmX12_beginOne w tx _ μ  _ h ⟨rfl, rfl⟩)
def fX12_compareOf (μ : PM)  : Int32 :=
  (if (μ.1 401 9) = 60 then 10 else (if (μ.1 401 9) = 4 then 11 else (if (μ.1 401 9) = 62 then 12 else (if (μ.1 401 9) = 5 then 13 else (if (μ.1 401 9) = 61 then 14 else (if (μ.1 401 9) = 35 then 15 else (-1)))))))
set_option maxRecDepth 20000 in
set_option maxHeartbeats 4000000 in
theorem cmX12_compareOf (w : go_Wd) (tx : Nat) (Q : Option Value → go_M → Prop) (μ : PM)  (out : Int32) (h : fX12_compareOf μ = out) (hK : Q (some (.int out)) (go_mk tx μ)) : Go w 0 0 0 mtX12_compareOf 0 [(0, .ref 401)] [] (go_mk tx μ) (go_Z w Q) := by
  unfold fX12_compareOf at h
  refine go_aload_n dX12_compareOf_0 0 rfl ?_
  refine pp_getI dX12_compareOf_1 ff_X12_102 (by decide) sh_401 ?_
  refine go_bipush (v := 60) dX12_compareOf_4 (by decide) ?_
  refine go_icmp_ne 14 dX12_compareOf_6 (by decide) (fun hc => ?_) (fun hc => ?_)
  · have h := go_ifn hc h
    refine go_aload_n dX12_compareOf_14 0 rfl ?_
    refine pp_getI dX12_compareOf_15 ff_X12_102 (by decide) sh_401 ?_
    refine go_iconst (v := 4) dX12_compareOf_18 (by decide) ?_
    refine go_icmp_ne 27 dX12_compareOf_19 (by decide) (fun hc => ?_) (fun hc => ?_)
    · have h := go_ifn hc h
      refine go_aload_n dX12_compareOf_27 0 rfl ?_
      refine pp_getI dX12_compareOf_28 ff_X12_102 (by decide) sh_401 ?_
      refine go_bipush (v := 62) dX12_compareOf_31 (by decide) ?_
      refine go_icmp_ne 41 dX12_compareOf_33 (by decide) (fun hc => ?_) (fun hc => ?_)
      · have h := go_ifn hc h
        refine go_aload_n dX12_compareOf_41 0 rfl ?_
        refine pp_getI dX12_compareOf_42 ff_X12_102 (by decide) sh_401 ?_
        refine go_iconst (v := 5) dX12_compareOf_45 (by decide) ?_
        refine go_icmp_ne 54 dX12_compareOf_46 (by decide) (fun hc => ?_) (fun hc => ?_)
        · have h := go_ifn hc h
          refine go_aload_n dX12_compareOf_54 0 rfl ?_
          refine pp_getI dX12_compareOf_55 ff_X12_102 (by decide) sh_401 ?_
          refine go_bipush (v := 61) dX12_compareOf_58 (by decide) ?_
          refine go_icmp_ne 68 dX12_compareOf_60 (by decide) (fun hc => ?_) (fun hc => ?_)
          · have h := go_ifn hc h
            refine go_aload_n dX12_compareOf_68 0 rfl ?_
            refine pp_getI dX12_compareOf_69 ff_X12_102 (by decide) sh_401 ?_
            refine go_bipush (v := 35) dX12_compareOf_72 (by decide) ?_
            refine go_icmp_ne 82 dX12_compareOf_74 (by decide) (fun hc => ?_) (fun hc => ?_)
            · have h := go_ifn hc h
              refine go_iconst (v := (-1)) dX12_compareOf_82 (by decide) ?_
              subst h
              exact go_iret dX12_compareOf_83 rfl hK
            · have h := go_ifp hc h
              refine go_bipush (v := 15) dX12_compareOf_77 (by decide) ?_
              refine go_goto 83 dX12_compareOf_79 (by decide) ?_
              subst h
              exact go_iret dX12_compareOf_83 rfl hK
          · have h := go_ifp hc h
            refine go_bipush (v := 14) dX12_compareOf_63 (by decide) ?_
            refine go_goto 83 dX12_compareOf_65 (by decide) ?_
            subst h
            exact go_iret dX12_compareOf_83 rfl hK
        · have h := go_ifp hc h
          refine go_bipush (v := 13) dX12_compareOf_49 (by decide) ?_
          refine go_goto 83 dX12_compareOf_51 (by decide) ?_
          subst h
          exact go_iret dX12_compareOf_83 rfl hK
      · have h := go_ifp hc h
        refine go_bipush (v := 12) dX12_compareOf_36 (by decide) ?_
        refine go_goto 83 dX12_compareOf_38 (by decide) ?_
        subst h
        exact go_iret dX12_compareOf_83 rfl hK
    · have h := go_ifp hc h
      refine go_bipush (v := 11) dX12_compareOf_22 (by decide) ?_
      refine go_goto 83 dX12_compareOf_24 (by decide) ?_
      subst h
      exact go_iret dX12_compareOf_83 rfl hK
  · have h := go_ifp hc h
    refine go_bipush (v := 10) dX12_compareOf_9 (by decide) ?_
    refine go_goto 83 dX12_compareOf_11 (by decide) ?_
    subst h
    exact go_iret dX12_compareOf_83 rfl hK
theorem ctX12_compareOf {w : go_Wd} {tx : Nat} {μ : PM}  {r : Int32}  (h : fX12_compareOf μ = r) : Ct w 0 0 0 mtX12_compareOf [.ref 401] (go_mk tx μ) (fun r' M' => r' = some (.int r) ∧ M' = go_mk tx μ) :=
  go_entry rfl (by decide) (Nat.le_of_ble_eq_true rfl) (cmX12_compareOf w tx _ μ  _ h ⟨rfl, rfl⟩)
def fX12_betweenOf (μ : PM)  : Option (Int32) :=
  (if (μ.1 401 9) = 43 then some (6) else (if (μ.1 401 9) = 45 then some (7) else (if (μ.1 401 9) = 42 then some (8) else (if (μ.1 401 9) = 47 then some (9) else (fX12_openNow μ).bind fun q1 => (if q1 = 42 then (fX12_isCompared μ).bind fun q2 => (if q2 = 0 then some ((fX12_compareOf μ)) else (if (fX12_isWord μ (fX12_w3 97 110 100)) = 0 then (if (fX12_isWord μ (fX12_w2 111 114)) = 0 then some ((-1)) else some (22)) else some (21))) else some ((-1)))))))
set_option maxRecDepth 20000 in
set_option maxHeartbeats 4000000 in
theorem cmX12_betweenOf (w : go_Wd) (tx : Nat) (Q : Option Value → go_M → Prop) (μ : PM)  (out : Int32) (h : fX12_betweenOf μ = some out) (hK : Q (some (.int out)) (go_mk tx μ)) : Go w 2 0 0 mtX12_betweenOf 0 [(0, .ref 401)] [] (go_mk tx μ) (go_Z w Q) := by
  unfold fX12_betweenOf at h
  refine go_aload_n dX12_betweenOf_0 0 rfl ?_
  refine pp_getI dX12_betweenOf_1 ff_X12_102 (by decide) sh_401 ?_
  refine go_bipush (v := 43) dX12_betweenOf_4 (by decide) ?_
  refine go_icmp_ne 12 dX12_betweenOf_6 (by decide) (fun hc => ?_) (fun hc => ?_)
  · have h := go_ifn hc h
    refine go_aload_n dX12_betweenOf_12 0 rfl ?_
    refine pp_getI dX12_betweenOf_13 ff_X12_102 (by decide) sh_401 ?_
    refine go_bipush (v := 45) dX12_betweenOf_16 (by decide) ?_
    refine go_icmp_ne 24 dX12_betweenOf_18 (by decide) (fun hc => ?_) (fun hc => ?_)
    · have h := go_ifn hc h
      refine go_aload_n dX12_betweenOf_24 0 rfl ?_
      refine pp_getI dX12_betweenOf_25 ff_X12_102 (by decide) sh_401 ?_
      refine go_bipush (v := 42) dX12_betweenOf_28 (by decide) ?_
      refine go_icmp_ne 36 dX12_betweenOf_30 (by decide) (fun hc => ?_) (fun hc => ?_)
      · have h := go_ifn hc h
        refine go_aload_n dX12_betweenOf_36 0 rfl ?_
        refine pp_getI dX12_betweenOf_37 ff_X12_102 (by decide) sh_401 ?_
        refine go_bipush (v := 47) dX12_betweenOf_40 (by decide) ?_
        refine go_icmp_ne 48 dX12_betweenOf_42 (by decide) (fun hc => ?_) (fun hc => ?_)
        · have h := go_ifn hc h
          refine go_aload_n dX12_betweenOf_48 0 rfl ?_
          obtain ⟨q1, hq1, h⟩ := go_bind h
          refine pp_callV (as := []) (st := []) (rv := (some (.int q1))) (μ1 := μ) (st1 := [.int q1]) dX12_betweenOf_49 ll_X12_169 sh_401 (by decide) rfl (ctX12_openNow  hq1) rfl (Nat.le_of_ble_eq_true rfl) (Nat.le_of_ble_eq_true rfl) (go_Z_up w _) rfl rfl ?_
          refine go_bipush (v := 42) dX12_betweenOf_52 (by decide) ?_
          refine go_icmp_eq 59 dX12_betweenOf_54 (by decide) (fun hc => ?_) (fun hc => ?_)
          · have h := go_ifp hc h
            refine go_aload_n dX12_betweenOf_59 0 rfl ?_
            obtain ⟨q2, hq2, h⟩ := go_bind h
            refine pp_callV (as := []) (st := []) (rv := (some (.int q2))) (μ1 := μ) (st1 := [.int q2]) dX12_betweenOf_60 ll_X12_201 sh_401 (by decide) rfl (ctX12_isCompared  hq2) rfl (Nat.le_of_ble_eq_true rfl) (Nat.le_of_ble_eq_true rfl) (go_Z_up w _) rfl rfl ?_
            refine go_if_ne 71 dX12_betweenOf_63 (by decide) (fun hc => ?_) (fun hc => ?_)
            · have h := go_ifn hc h
              refine go_aload_n dX12_betweenOf_71 0 rfl ?_
              refine go_bipush (v := 97) dX12_betweenOf_72 (by decide) ?_
              refine go_bipush (v := 110) dX12_betweenOf_74 (by decide) ?_
              refine go_bipush (v := 100) dX12_betweenOf_76 (by decide) ?_
              refine pp_callS (as := [.int 97, .int 110, .int 100]) (st := [.ref 401]) (rv := (some (.long (fX12_w3 97 110 100)))) (μ1 := μ) (st1 := [.long (fX12_w3 97 110 100), .ref 401]) dX12_betweenOf_78 ll_X12_127 (ctX12_w3  rfl) rfl (Nat.le_of_ble_eq_true rfl) (Nat.le_of_ble_eq_true rfl) (go_Z_up w _) rfl rfl ?_
              refine pp_callV (as := [.long (fX12_w3 97 110 100)]) (st := []) (rv := (some (.int (fX12_isWord μ (fX12_w3 97 110 100))))) (μ1 := μ) (st1 := [.int (fX12_isWord μ (fX12_w3 97 110 100))]) dX12_betweenOf_81 ll_X12_187 sh_401 (by decide) rfl (ctX12_isWord  rfl) rfl (Nat.le_of_ble_eq_true rfl) (Nat.le_of_ble_eq_true rfl) (go_Z_up w _) rfl rfl ?_
              refine go_if_eq 92 dX12_betweenOf_84 (by decide) (fun hc => ?_) (fun hc => ?_)
              · have h := go_ifp hc h
                refine go_aload_n dX12_betweenOf_92 0 rfl ?_
                refine go_bipush (v := 111) dX12_betweenOf_93 (by decide) ?_
                refine go_bipush (v := 114) dX12_betweenOf_95 (by decide) ?_
                refine pp_callS (as := [.int 111, .int 114]) (st := [.ref 401]) (rv := (some (.long (fX12_w2 111 114)))) (μ1 := μ) (st1 := [.long (fX12_w2 111 114), .ref 401]) dX12_betweenOf_97 ll_X12_123 (ctX12_w2  rfl) rfl (Nat.le_of_ble_eq_true rfl) (Nat.le_of_ble_eq_true rfl) (go_Z_up w _) rfl rfl ?_
                refine pp_callV (as := [.long (fX12_w2 111 114)]) (st := []) (rv := (some (.int (fX12_isWord μ (fX12_w2 111 114))))) (μ1 := μ) (st1 := [.int (fX12_isWord μ (fX12_w2 111 114))]) dX12_betweenOf_100 ll_X12_187 sh_401 (by decide) rfl (ctX12_isWord  rfl) rfl (Nat.le_of_ble_eq_true rfl) (Nat.le_of_ble_eq_true rfl) (go_Z_up w _) rfl rfl ?_
                refine go_if_eq 111 dX12_betweenOf_103 (by decide) (fun hc => ?_) (fun hc => ?_)
                · have h := go_ifp hc h
                  refine go_iconst (v := (-1)) dX12_betweenOf_111 (by decide) ?_
                  cases h
                  exact go_iret dX12_betweenOf_112 rfl hK
                · have h := go_ifn hc h
                  refine go_bipush (v := 22) dX12_betweenOf_106 (by decide) ?_
                  refine go_goto 112 dX12_betweenOf_108 (by decide) ?_
                  cases h
                  exact go_iret dX12_betweenOf_112 rfl hK
              · have h := go_ifn hc h
                refine go_bipush (v := 21) dX12_betweenOf_87 (by decide) ?_
                refine go_goto 112 dX12_betweenOf_89 (by decide) ?_
                cases h
                exact go_iret dX12_betweenOf_112 rfl hK
            · have h := go_ifp hc h
              refine go_aload_n dX12_betweenOf_66 0 rfl ?_
              refine pp_callV (as := []) (st := []) (rv := (some (.int (fX12_compareOf μ)))) (μ1 := μ) (st1 := [.int (fX12_compareOf μ)]) dX12_betweenOf_67 ll_X12_204 sh_401 (by decide) rfl (ctX12_compareOf  rfl) rfl (Nat.le_of_ble_eq_true rfl) (Nat.le_of_ble_eq_true rfl) (go_Z_up w _) rfl rfl ?_
              cases h
              exact go_iret dX12_betweenOf_70 rfl hK
          · have h := go_ifn hc h
            refine go_iconst (v := (-1)) dX12_betweenOf_57 (by decide) ?_
            cases h
            exact go_iret dX12_betweenOf_58 rfl hK
        · have h := go_ifp hc h
          refine go_bipush (v := 9) dX12_betweenOf_45 (by decide) ?_
          cases h
          exact go_iret dX12_betweenOf_47 rfl hK
      · have h := go_ifp hc h
        refine go_bipush (v := 8) dX12_betweenOf_33 (by decide) ?_
        cases h
        exact go_iret dX12_betweenOf_35 rfl hK
    · have h := go_ifp hc h
      refine go_bipush (v := 7) dX12_betweenOf_21 (by decide) ?_
      cases h
      exact go_iret dX12_betweenOf_23 rfl hK
  · have h := go_ifp hc h
    refine go_bipush (v := 6) dX12_betweenOf_9 (by decide) ?_
    cases h
    exact go_iret dX12_betweenOf_11 rfl hK
theorem ctX12_betweenOf {w : go_Wd} {tx : Nat} {μ : PM}  {r : Int32}  (h : fX12_betweenOf μ = some r) : Ct w 2 0 0 mtX12_betweenOf [.ref 401] (go_mk tx μ) (fun r' M' => r' = some (.int r) ∧ M' = go_mk tx μ) :=
  go_entry rfl (by decide) (Nat.le_of_ble_eq_true rfl) (cmX12_betweenOf w tx _ μ  _ h ⟨rfl, rfl⟩)
def fX12_partOf (μ : PM) (a0 : Int32) : Option (Int32) :=
  (if a0 = 40 then (if (μ.1 401 9) = 41 then some (0) else some ((-1))) else (if a0 = 41 then some ((-1)) else (if a0 = 42 then (if (fX12_isWord μ (fX12_w4 116 104 101 110)) = 0 then some ((-1)) else (fX12_isCompared μ).bind fun q4 => (if q4 = 0 then some ((-1)) else some (43))) else (if a0 = 43 then (if (fX12_isWord μ (fX12_w4 101 108 115 101)) = 0 then some ((-1)) else some (44)) else (if a0 = 44 then (if (fX12_isWord μ (fX12_w3 101 110 100)) = 0 then some ((-1)) else some (0)) else some ((-1)))))))
set_option maxRecDepth 20000 in
set_option maxHeartbeats 4000000 in
theorem cmX12_partOf (w : go_Wd) (tx : Nat) (Q : Option Value → go_M → Prop) (μ : PM) (a0 : Int32) (out : Int32) (h : fX12_partOf μ a0 = some out) (hK : Q (some (.int out)) (go_mk tx μ)) : Go w 3 0 0 mtX12_partOf 0 [(0, .ref 401), (1, .int a0)] [] (go_mk tx μ) (go_Z w Q) := by
  unfold fX12_partOf at h
  refine go_iload_n dX12_partOf_0 1 rfl ?_
  by_cases hc1 : a0 = 40
  · have h := go_ifp hc1 h
    refine go_tabIn (off := 35) 36 dX12_partOf_1 40 hc1 (by decide) (by decide) (by decide) (by decide) ?_
    refine go_aload_n dX12_partOf_36 0 rfl ?_
    refine pp_getI dX12_partOf_37 ff_X12_102 (by decide) sh_401 ?_
    refine go_bipush (v := 41) dX12_partOf_40 (by decide) ?_
    refine go_icmp_ne 49 dX12_partOf_42 (by decide) (fun hc => ?_) (fun hc => ?_)
    · have h := go_ifn hc h
      refine go_iconst (v := (-1)) dX12_partOf_49 (by decide) ?_
      cases h
      exact go_iret dX12_partOf_50 rfl hK
    · have h := go_ifp hc h
      refine go_iconst (v := 0) dX12_partOf_45 (by decide) ?_
      refine go_goto 50 dX12_partOf_46 (by decide) ?_
      cases h
      exact go_iret dX12_partOf_50 rfl hK
  · have h := go_ifn hc1 h
    by_cases hc2 : a0 = 41
    · have h := go_ifp hc2 h
      refine go_tabIn (off := 129) 130 dX12_partOf_1 41 hc2 (by decide) (by decide) (by decide) (by decide) ?_
      refine go_iconst (v := (-1)) dX12_partOf_130 (by decide) ?_
      cases h
      exact go_iret dX12_partOf_131 rfl hK
    · have h := go_ifn hc2 h
      by_cases hc3 : a0 = 42
      · have h := go_ifp hc3 h
        refine go_tabIn (off := 50) 51 dX12_partOf_1 42 hc3 (by decide) (by decide) (by decide) (by decide) ?_
        refine go_aload_n dX12_partOf_51 0 rfl ?_
        refine go_bipush (v := 116) dX12_partOf_52 (by decide) ?_
        refine go_bipush (v := 104) dX12_partOf_54 (by decide) ?_
        refine go_bipush (v := 101) dX12_partOf_56 (by decide) ?_
        refine go_bipush (v := 110) dX12_partOf_58 (by decide) ?_
        refine pp_callS (as := [.int 116, .int 104, .int 101, .int 110]) (st := [.ref 401]) (rv := (some (.long (fX12_w4 116 104 101 110)))) (μ1 := μ) (st1 := [.long (fX12_w4 116 104 101 110), .ref 401]) dX12_partOf_60 ll_X12_131 (ctX12_w4  rfl) rfl (Nat.le_of_ble_eq_true rfl) (Nat.le_of_ble_eq_true rfl) (go_Z_up w _) rfl rfl ?_
        refine pp_callV (as := [.long (fX12_w4 116 104 101 110)]) (st := []) (rv := (some (.int (fX12_isWord μ (fX12_w4 116 104 101 110))))) (μ1 := μ) (st1 := [.int (fX12_isWord μ (fX12_w4 116 104 101 110))]) dX12_partOf_63 ll_X12_187 sh_401 (by decide) rfl (ctX12_isWord  rfl) rfl (Nat.le_of_ble_eq_true rfl) (Nat.le_of_ble_eq_true rfl) (go_Z_up w _) rfl rfl ?_
        refine go_if_eq 81 dX12_partOf_66 (by decide) (fun hc => ?_) (fun hc => ?_)
        · have h := go_ifp hc h
          refine go_iconst (v := (-1)) dX12_partOf_81 (by decide) ?_
          cases h
          exact go_iret dX12_partOf_82 rfl hK
        · have h := go_ifn hc h
          refine go_aload_n dX12_partOf_69 0 rfl ?_
          obtain ⟨q4, hq4, h⟩ := go_bind h
          refine pp_callV (as := []) (st := []) (rv := (some (.int q4))) (μ1 := μ) (st1 := [.int q4]) dX12_partOf_70 ll_X12_201 sh_401 (by decide) rfl (ctX12_isCompared  hq4) rfl (Nat.le_of_ble_eq_true rfl) (Nat.le_of_ble_eq_true rfl) (go_Z_up w _) rfl rfl ?_
          refine go_if_eq 81 dX12_partOf_73 (by decide) (fun hc => ?_) (fun hc => ?_)
          · have h := go_ifp hc h
            refine go_iconst (v := (-1)) dX12_partOf_81 (by decide) ?_
            cases h
            exact go_iret dX12_partOf_82 rfl hK
          · have h := go_ifn hc h
            refine go_bipush (v := 43) dX12_partOf_76 (by decide) ?_
            refine go_goto 82 dX12_partOf_78 (by decide) ?_
            cases h
            exact go_iret dX12_partOf_82 rfl hK
      · have h := go_ifn hc3 h
        by_cases hc5 : a0 = 43
        · have h := go_ifp hc5 h
          refine go_tabIn (off := 82) 83 dX12_partOf_1 43 hc5 (by decide) (by decide) (by decide) (by decide) ?_
          refine go_aload_n dX12_partOf_83 0 rfl ?_
          refine go_bipush (v := 101) dX12_partOf_84 (by decide) ?_
          refine go_bipush (v := 108) dX12_partOf_86 (by decide) ?_
          refine go_bipush (v := 115) dX12_partOf_88 (by decide) ?_
          refine go_bipush (v := 101) dX12_partOf_90 (by decide) ?_
          refine pp_callS (as := [.int 101, .int 108, .int 115, .int 101]) (st := [.ref 401]) (rv := (some (.long (fX12_w4 101 108 115 101)))) (μ1 := μ) (st1 := [.long (fX12_w4 101 108 115 101), .ref 401]) dX12_partOf_92 ll_X12_131 (ctX12_w4  rfl) rfl (Nat.le_of_ble_eq_true rfl) (Nat.le_of_ble_eq_true rfl) (go_Z_up w _) rfl rfl ?_
          refine pp_callV (as := [.long (fX12_w4 101 108 115 101)]) (st := []) (rv := (some (.int (fX12_isWord μ (fX12_w4 101 108 115 101))))) (μ1 := μ) (st1 := [.int (fX12_isWord μ (fX12_w4 101 108 115 101))]) dX12_partOf_95 ll_X12_187 sh_401 (by decide) rfl (ctX12_isWord  rfl) rfl (Nat.le_of_ble_eq_true rfl) (Nat.le_of_ble_eq_true rfl) (go_Z_up w _) rfl rfl ?_
          refine go_if_eq 106 dX12_partOf_98 (by decide) (fun hc => ?_) (fun hc => ?_)
          · have h := go_ifp hc h
            refine go_iconst (v := (-1)) dX12_partOf_106 (by decide) ?_
            cases h
            exact go_iret dX12_partOf_107 rfl hK
          · have h := go_ifn hc h
            refine go_bipush (v := 44) dX12_partOf_101 (by decide) ?_
            refine go_goto 107 dX12_partOf_103 (by decide) ?_
            cases h
            exact go_iret dX12_partOf_107 rfl hK
        · have h := go_ifn hc5 h
          by_cases hc6 : a0 = 44
          · have h := go_ifp hc6 h
            refine go_tabIn (off := 107) 108 dX12_partOf_1 44 hc6 (by decide) (by decide) (by decide) (by decide) ?_
            refine go_aload_n dX12_partOf_108 0 rfl ?_
            refine go_bipush (v := 101) dX12_partOf_109 (by decide) ?_
            refine go_bipush (v := 110) dX12_partOf_111 (by decide) ?_
            refine go_bipush (v := 100) dX12_partOf_113 (by decide) ?_
            refine pp_callS (as := [.int 101, .int 110, .int 100]) (st := [.ref 401]) (rv := (some (.long (fX12_w3 101 110 100)))) (μ1 := μ) (st1 := [.long (fX12_w3 101 110 100), .ref 401]) dX12_partOf_115 ll_X12_127 (ctX12_w3  rfl) rfl (Nat.le_of_ble_eq_true rfl) (Nat.le_of_ble_eq_true rfl) (go_Z_up w _) rfl rfl ?_
            refine pp_callV (as := [.long (fX12_w3 101 110 100)]) (st := []) (rv := (some (.int (fX12_isWord μ (fX12_w3 101 110 100))))) (μ1 := μ) (st1 := [.int (fX12_isWord μ (fX12_w3 101 110 100))]) dX12_partOf_118 ll_X12_187 sh_401 (by decide) rfl (ctX12_isWord  rfl) rfl (Nat.le_of_ble_eq_true rfl) (Nat.le_of_ble_eq_true rfl) (go_Z_up w _) rfl rfl ?_
            refine go_if_eq 128 dX12_partOf_121 (by decide) (fun hc => ?_) (fun hc => ?_)
            · have h := go_ifp hc h
              refine go_iconst (v := (-1)) dX12_partOf_128 (by decide) ?_
              cases h
              exact go_iret dX12_partOf_129 rfl hK
            · have h := go_ifn hc h
              refine go_iconst (v := 0) dX12_partOf_124 (by decide) ?_
              refine go_goto 129 dX12_partOf_125 (by decide) ?_
              cases h
              exact go_iret dX12_partOf_129 rfl hK
          · have h := go_ifn hc6 h
            refine go_tabOut 130 dX12_partOf_1 (by have g0 := go_ne_i (n := 40) hc1 (by decide); have g1 := go_ne_i (n := 41) hc2 (by decide); have g2 := go_ne_i (n := 42) hc3 (by decide); have g3 := go_ne_i (n := 43) hc5 (by decide); have g4 := go_ne_i (n := 44) hc6 (by decide); omega) (by decide) ?_
            refine go_iconst (v := (-1)) dX12_partOf_130 (by decide) ?_
            cases h
            exact go_iret dX12_partOf_131 rfl hK
theorem ctX12_partOf {w : go_Wd} {tx : Nat} {μ : PM} {a0 : Int32} {r : Int32}  (h : fX12_partOf μ a0 = some r) : Ct w 3 0 0 mtX12_partOf [.ref 401, .int a0] (go_mk tx μ) (fun r' M' => r' = some (.int r) ∧ M' = go_mk tx μ) :=
  go_entry rfl (by decide) (Nat.le_of_ble_eq_true rfl) (cmX12_partOf w tx _ μ a0 _ h ⟨rfl, rfl⟩)
def jjX12_behindOne_122 (μ : PM)    : Option (Int32 × PM) :=
  (fX12_endOne μ).bind fun q12 => some ((q12.1, q12.2))
def jjX12_behindOne_26 (μ : PM)  (v1 : Int32) (s1 : Int32) : Option (Int32 × PM) :=
  (fX12_settle μ s1).bind fun q14 => go_chk (q14.1 401 16) 160 <| go_let (pm_wi q14 406 ((q14.1 401 16) : Int32).toNatClampNeg v1) fun μ15 => go_let (pm_wi μ15 401 16 ((μ15.1 401 16) + 1)) fun μ17 => go_let (pm_wi μ17 401 18 0) fun μ18 => (fX12_nextToken μ18).bind fun q19 => some ((0, q19))
def fX12_behindOne (μ : PM)  : Option (Int32 × PM) :=
  (fX12_betweenOf μ).bind fun q1 => (if q1 < 0 then (fX12_openNow μ).bind fun q2 => (fX12_partOf μ q2).bind fun q3 => (if 0 ≤ q3 then (fX12_settle μ 1).bind fun q4 => (fX12_nextToken q4).bind fun q5 => (if q3 = 0 then go_let (pm_wi q5 401 17 ((q5.1 401 17) - 1)) fun μ10 => go_let (pm_wi μ10 401 16 ((μ10.1 401 16) - 1)) fun μ11 => (if q2 = 44 then (fX12_emit μ11 3 0).bind fun q13 => jjX12_behindOne_122 q13 else jjX12_behindOne_122 μ11) else (fX12_openAt q5).bind fun q6 => go_chk q6 160 <| go_let (pm_wi q5 406 q6.toNatClampNeg q3) fun μ7 => go_let (pm_wi μ7 401 18 0) fun μ9 => some ((0, μ9))) else some (((-1), μ))) else (if (fX12_rank q1) = 4 then jjX12_behindOne_26 μ q1 5 else jjX12_behindOne_26 μ q1 ((fX12_rank q1))))
set_option maxRecDepth 20000 in
set_option maxHeartbeats 4000000 in
theorem jqX12_behindOne_122 (w : go_Wd) (tx : Nat) (Q : Option Value → go_M → Prop) (μ : PM)      (out : Int32 × PM) (h : jjX12_behindOne_122 μ   = some out) (hK : Q (some (.int out.1)) (go_mk tx out.2)) : Go w 4 0 0 mtX12_behindOne 122 [(0, .ref 401)] [] (go_mk tx μ) (go_Z w Q) := by
  unfold jjX12_behindOne_122 at h
  refine go_aload_n dX12_behindOne_122 0 rfl ?_
  obtain ⟨q12, hq12, h⟩ := go_bind h
  refine pp_callV (as := []) (st := []) (rv := (some (.int q12.1))) (μ1 := q12.2) (st1 := [.int q12.1]) dX12_behindOne_123 ll_X12_181 sh_401 (by decide) rfl (ctX12_endOne  hq12) rfl (Nat.le_of_ble_eq_true rfl) (Nat.le_of_ble_eq_true rfl) (go_Z_up w _) rfl rfl ?_
  cases h
  exact go_iret dX12_behindOne_126 rfl hK
set_option maxRecDepth 20000 in
set_option maxHeartbeats 4000000 in
theorem jqX12_behindOne_26 (w : go_Wd) (tx : Nat) (Q : Option Value → go_M → Prop) (μ : PM)  (v1 : Int32)  (s1 : Int32)  (out : Int32 × PM) (h : jjX12_behindOne_26 μ v1 s1 = some out) (hK : Q (some (.int out.1)) (go_mk tx out.2)) : Go w 4 0 0 mtX12_behindOne 26 [(0, .ref 401), (1, .int v1)] [.int s1, .ref 401] (go_mk tx μ) (go_Z w Q) := by
  unfold jjX12_behindOne_26 at h
  obtain ⟨q14, hq14, h⟩ := go_bind h
  refine pp_callV (as := [.int s1]) (st := []) (rv := none) (μ1 := q14) (st1 := []) dX12_behindOne_26 ll_X12_195 sh_401 (by decide) rfl (ctX12_settle  hq14) rfl (Nat.le_of_ble_eq_true rfl) (Nat.le_of_ble_eq_true rfl) (go_Z_up w _) rfl rfl ?_
  refine go_aload_n dX12_behindOne_29 0 rfl ?_
  refine pp_getR dX12_behindOne_30 ff_X12_29 (Or.inr ⟨_, rfl⟩) sh_401 rf_401_15 ?_
  refine go_aload_n dX12_behindOne_33 0 rfl ?_
  refine pp_getI dX12_behindOne_34 ff_X12_152 (by decide) sh_401 ?_
  refine go_iload_n dX12_behindOne_37 1 rfl ?_
  obtain ⟨hz16, h⟩ := go_chk_e h
  obtain ⟨μ15, hμ15, h⟩ := go_let_e h
  refine pp_ist dX12_behindOne_38 sh_406 hz16 hμ15 ?_
  refine go_aload_n dX12_behindOne_39 0 rfl ?_
  refine go_dup dX12_behindOne_40 rfl ?_
  refine pp_getI dX12_behindOne_41 ff_X12_152 (by decide) sh_401 ?_
  refine go_iconst (v := 1) dX12_behindOne_44 (by decide) ?_
  refine go_iadd dX12_behindOne_45 ?_
  obtain ⟨μ17, hμ17, h⟩ := go_let_e h
  refine pp_putI dX12_behindOne_46 ff_X12_152 (Or.inl rfl) sh_401 hμ17 ?_
  refine go_aload_n dX12_behindOne_49 0 rfl ?_
  refine go_iconst (v := 0) dX12_behindOne_50 (by decide) ?_
  obtain ⟨μ18, hμ18, h⟩ := go_let_e h
  refine pp_putI dX12_behindOne_51 ff_X12_198 (Or.inr ⟨rfl, (Or.inl rfl)⟩) sh_401 hμ18 ?_
  refine go_aload_n dX12_behindOne_54 0 rfl ?_
  obtain ⟨q19, hq19, h⟩ := go_bind h
  refine pp_callV (as := []) (st := []) (rv := none) (μ1 := q19) (st1 := []) dX12_behindOne_55 ll_X12_172 sh_401 (by decide) rfl (ctX12_nextToken  hq19) rfl (Nat.le_of_ble_eq_true rfl) (Nat.le_of_ble_eq_true rfl) (go_Z_up w _) rfl rfl ?_
  refine go_iconst (v := 0) dX12_behindOne_58 (by decide) ?_
  cases h
  exact go_iret dX12_behindOne_59 rfl hK
set_option maxRecDepth 20000 in
set_option maxHeartbeats 4000000 in
theorem cmX12_behindOne (w : go_Wd) (tx : Nat) (Q : Option Value → go_M → Prop) (μ : PM)  (out : Int32 × PM) (h : fX12_behindOne μ = some out) (hK : Q (some (.int out.1)) (go_mk tx out.2)) : Go w 4 0 0 mtX12_behindOne 0 [(0, .ref 401)] [] (go_mk tx μ) (go_Z w Q) := by
  unfold fX12_behindOne at h
  refine go_aload_n dX12_behindOne_0 0 rfl ?_
  obtain ⟨q1, hq1, h⟩ := go_bind h
  refine pp_callV (as := []) (st := []) (rv := (some (.int q1))) (μ1 := μ) (st1 := [.int q1]) dX12_behindOne_1 ll_X12_207 sh_401 (by decide) rfl (ctX12_betweenOf  hq1) rfl (Nat.le_of_ble_eq_true rfl) (Nat.le_of_ble_eq_true rfl) (go_Z_up w _) rfl rfl ?_
  refine go_istore_n dX12_behindOne_4 (by decide) rfl ?_
  show Go w 4 0 0 mtX12_behindOne 5 [(1, .int q1), (0, .ref 401)] [] (go_mk tx μ) (go_Z w Q)
  refine go_iload_n dX12_behindOne_5 0 rfl ?_
  refine go_if_lt 60 dX12_behindOne_6 (by decide) (fun hc => ?_) (fun hc => ?_)
  · have h := go_ifp hc h
    refine go_aload_n dX12_behindOne_60 1 rfl ?_
    obtain ⟨q2, hq2, h⟩ := go_bind h
    refine pp_callV (as := []) (st := []) (rv := (some (.int q2))) (μ1 := μ) (st1 := [.int q2]) dX12_behindOne_61 ll_X12_169 sh_401 (by decide) rfl (ctX12_openNow  hq2) rfl (Nat.le_of_ble_eq_true rfl) (Nat.le_of_ble_eq_true rfl) (go_Z_up w _) rfl rfl ?_
    refine go_istore_n dX12_behindOne_64 (by decide) rfl ?_
    show Go w 4 0 0 mtX12_behindOne 65 [(2, .int q2), (1, .int q1), (0, .ref 401)] [] (go_mk tx μ) (go_Z w Q)
    refine go_aload_n dX12_behindOne_65 2 rfl ?_
    refine go_iload_n dX12_behindOne_66 0 rfl ?_
    obtain ⟨q3, hq3, h⟩ := go_bind h
    refine pp_callV (as := [.int q2]) (st := []) (rv := (some (.int q3))) (μ1 := μ) (st1 := [.int q3]) dX12_behindOne_67 ll_X12_210 sh_401 (by decide) rfl (ctX12_partOf  hq3) rfl (Nat.le_of_ble_eq_true rfl) (Nat.le_of_ble_eq_true rfl) (go_Z_up w _) rfl rfl ?_
    refine go_istore_n dX12_behindOne_70 (by decide) rfl ?_
    show Go w 4 0 0 mtX12_behindOne 71 [(3, .int q3), (2, .int q2), (1, .int q1), (0, .ref 401)] [] (go_mk tx μ) (go_Z w Q)
    refine go_iload_n dX12_behindOne_71 0 rfl ?_
    refine go_if_ge 77 dX12_behindOne_72 (by decide) (fun hc => ?_) (fun hc => ?_)
    · have h := go_ifp hc h
      refine go_aload_n dX12_behindOne_77 3 rfl ?_
      refine go_iconst (v := 1) dX12_behindOne_78 (by decide) ?_
      obtain ⟨q4, hq4, h⟩ := go_bind h
      refine pp_callV (as := [.int 1]) (st := []) (rv := none) (μ1 := q4) (st1 := []) dX12_behindOne_79 ll_X12_195 sh_401 (by decide) rfl (ctX12_settle  hq4) rfl (Nat.le_of_ble_eq_true rfl) (Nat.le_of_ble_eq_true rfl) (go_Z_up w _) rfl rfl ?_
      refine go_aload_n dX12_behindOne_82 3 rfl ?_
      obtain ⟨q5, hq5, h⟩ := go_bind h
      refine pp_callV (as := []) (st := []) (rv := none) (μ1 := q5) (st1 := []) dX12_behindOne_83 ll_X12_172 sh_401 (by decide) rfl (ctX12_nextToken  hq5) rfl (Nat.le_of_ble_eq_true rfl) (Nat.le_of_ble_eq_true rfl) (go_Z_up w _) rfl rfl ?_
      refine go_iload_n dX12_behindOne_86 0 rfl ?_
      refine go_if_ne 127 dX12_behindOne_87 (by decide) (fun hc => ?_) (fun hc => ?_)
      · have h := go_ifn hc h
        refine go_aload_n dX12_behindOne_127 3 rfl ?_
        refine pp_getR dX12_behindOne_128 ff_X12_29 (Or.inr ⟨_, rfl⟩) sh_401 rf_401_15 ?_
        refine go_aload_n dX12_behindOne_131 3 rfl ?_
        obtain ⟨q6, hq6, h⟩ := go_bind h
        refine pp_callV (as := []) (st := [.ref 406]) (rv := (some (.int q6))) (μ1 := q5) (st1 := [.int q6, .ref 406]) dX12_behindOne_132 ll_X12_165 sh_401 (by decide) rfl (ctX12_openAt  hq6) rfl (Nat.le_of_ble_eq_true rfl) (Nat.le_of_ble_eq_true rfl) (go_Z_up w _) rfl rfl ?_
        refine go_iload_n dX12_behindOne_135 0 rfl ?_
        obtain ⟨hz8, h⟩ := go_chk_e h
        obtain ⟨μ7, hμ7, h⟩ := go_let_e h
        refine pp_ist dX12_behindOne_136 sh_406 hz8 hμ7 ?_
        refine go_aload_n dX12_behindOne_137 3 rfl ?_
        refine go_iconst (v := 0) dX12_behindOne_138 (by decide) ?_
        obtain ⟨μ9, hμ9, h⟩ := go_let_e h
        refine pp_putI dX12_behindOne_139 ff_X12_198 (Or.inr ⟨rfl, (Or.inl rfl)⟩) sh_401 hμ9 ?_
        refine go_iconst (v := 0) dX12_behindOne_142 (by decide) ?_
        cases h
        exact go_iret dX12_behindOne_143 rfl hK
      · have h := go_ifp hc h
        refine go_aload_n dX12_behindOne_90 3 rfl ?_
        refine go_dup dX12_behindOne_91 rfl ?_
        refine pp_getI dX12_behindOne_92 ff_X12_162 (by decide) sh_401 ?_
        refine go_iconst (v := 1) dX12_behindOne_95 (by decide) ?_
        refine go_isub dX12_behindOne_96 ?_
        obtain ⟨μ10, hμ10, h⟩ := go_let_e h
        refine pp_putI dX12_behindOne_97 ff_X12_162 (Or.inl rfl) sh_401 hμ10 ?_
        refine go_aload_n dX12_behindOne_100 3 rfl ?_
        refine go_dup dX12_behindOne_101 rfl ?_
        refine pp_getI dX12_behindOne_102 ff_X12_152 (by decide) sh_401 ?_
        refine go_iconst (v := 1) dX12_behindOne_105 (by decide) ?_
        refine go_isub dX12_behindOne_106 ?_
        obtain ⟨μ11, hμ11, h⟩ := go_let_e h
        refine pp_putI dX12_behindOne_107 ff_X12_152 (Or.inl rfl) sh_401 hμ11 ?_
        refine go_iload_n dX12_behindOne_110 1 rfl ?_
        refine go_bipush (v := 44) dX12_behindOne_111 (by decide) ?_
        refine go_icmp_ne 122 dX12_behindOne_113 (by decide) (fun hc => ?_) (fun hc => ?_)
        · have h := go_ifn hc h
          refine go_pick [3] rfl ?_
          exact jqX12_behindOne_122 w tx Q μ11      _ h hK
        · have h := go_ifp hc h
          refine go_aload_n dX12_behindOne_116 3 rfl ?_
          refine go_iconst (v := 3) dX12_behindOne_117 (by decide) ?_
          refine go_iconst (v := 0) dX12_behindOne_118 (by decide) ?_
          obtain ⟨q13, hq13, h⟩ := go_bind h
          refine pp_callV (as := [.int 3, .int 0]) (st := []) (rv := none) (μ1 := q13) (st1 := []) dX12_behindOne_119 ll_X12_158 sh_401 (by decide) rfl (ctX12_emit  hq13) rfl (Nat.le_of_ble_eq_true rfl) (Nat.le_of_ble_eq_true rfl) (go_Z_up w _) rfl rfl ?_
          refine go_pick [3] rfl ?_
          exact jqX12_behindOne_122 w tx Q q13      _ h hK
    · have h := go_ifn hc h
      refine go_iconst (v := (-1)) dX12_behindOne_75 (by decide) ?_
      cases h
      exact go_iret dX12_behindOne_76 rfl hK
  · have h := go_ifn hc h
    refine go_aload_n dX12_behindOne_9 1 rfl ?_
    refine go_iload_n dX12_behindOne_10 0 rfl ?_
    refine pp_callS (as := [.int q1]) (st := [.ref 401]) (rv := (some (.int (fX12_rank q1)))) (μ1 := μ) (st1 := [.int (fX12_rank q1), .ref 401]) dX12_behindOne_11 ll_X12_155 (ctX12_rank  rfl) rfl (Nat.le_of_ble_eq_true rfl) (Nat.le_of_ble_eq_true rfl) (go_Z_up w _) rfl rfl ?_
    refine go_iconst (v := 4) dX12_behindOne_14 (by decide) ?_
    refine go_icmp_ne 22 dX12_behindOne_15 (by decide) (fun hc => ?_) (fun hc => ?_)
    · have h := go_ifn hc h
      refine go_iload_n dX12_behindOne_22 0 rfl ?_
      refine pp_callS (as := [.int q1]) (st := [.ref 401]) (rv := (some (.int (fX12_rank q1)))) (μ1 := μ) (st1 := [.int (fX12_rank q1), .ref 401]) dX12_behindOne_23 ll_X12_155 (ctX12_rank  rfl) rfl (Nat.le_of_ble_eq_true rfl) (Nat.le_of_ble_eq_true rfl) (go_Z_up w _) rfl rfl ?_
      refine go_pick [1, 0] rfl ?_
      exact jqX12_behindOne_26 w tx Q μ  q1  ((fX12_rank q1))  _ h hK
    · have h := go_ifp hc h
      refine go_iconst (v := 5) dX12_behindOne_18 (by decide) ?_
      refine go_goto 26 dX12_behindOne_19 (by decide) ?_
      refine go_pick [1, 0] rfl ?_
      exact jqX12_behindOne_26 w tx Q μ  q1  5  _ h hK
theorem ctX12_behindOne {w : go_Wd} {tx : Nat} {μ : PM}  {r : Int32} {μ1 : PM}  (h : fX12_behindOne μ = some (r, μ1)) : Ct w 4 0 0 mtX12_behindOne [.ref 401] (go_mk tx μ) (fun r' M' => r' = some (.int r) ∧ M' = go_mk tx μ1) :=
  go_entry rfl (by decide) (Nat.le_of_ble_eq_true rfl) (cmX12_behindOne w tx _ μ  _ h ⟨rfl, rfl⟩)
def jjX12_summed_33_15 (μ : PM)   (s0 : Int32) : Option ((PM) ⊕ ((PM) ⊕ (Int32 × PM))) :=
  (if s0 ≤ 0 then (if s0 = 0 then some (.inl μ) else some (.inr (.inl μ))) else some (.inr (.inr ((s0, μ)))))
def lbX12_summed_15    (μ : PM) : Option ((PM) ⊕ ((PM) ⊕ (Int32 × PM))) :=
  (if (μ.1 401 18) = 0 then (fX12_beginOne μ).bind fun q4 => jjX12_summed_33_15 q4.2 q4.1 else (fX12_behindOne μ).bind fun q5 => jjX12_summed_33_15 q5.2 q5.1)
def fX12_summed (μ : PM)  : Option (Int32 × PM) :=
  go_let (pm_wi μ 401 16 0) fun μ1 => go_let (pm_wi μ1 401 17 0) fun μ2 => go_let (pm_wi μ2 401 18 0) fun μ3 => ((lp (fun s => lbX12_summed_15 s) go_fuel μ3).bind fun ρ6 => go_cs ρ6 (fun e7 => (fX12_openNow e7).bind fun q8 => (if q8 < 0 then (fX12_settle e7 1).bind fun q9 => some ((0, q9)) else some ((1, e7)))) (fun y => some y))
def ggX12_summed_15 (w : go_Wd) (tx : Nat) (Q : Option Value → go_M → Prop)   (s : PM) : Prop := Go w 7 0 0 mtX12_summed 15 [(0, .ref 401)] [] (go_mk tx s) (go_Z w Q)
def eeX12_summed_15 (w : go_Wd) (tx : Nat) (Q : Option Value → go_M → Prop)   : (PM) ⊕ (Int32 × PM) → Prop
  | .inl e => Go w 7 0 0 mtX12_summed 47 [(0, .ref 401)] [] (go_mk tx e) (go_Z w Q)
  | .inr y => Q (some (.int y.1)) (go_mk tx y.2)
set_option maxRecDepth 20000 in
set_option maxHeartbeats 4000000 in
theorem jqX12_summed_33_15 (w : go_Wd) (tx : Nat) (Q : Option Value → go_M → Prop) (μ : PM)    (s0 : Int32)  (out : (PM) ⊕ ((PM) ⊕ (Int32 × PM))) (h : jjX12_summed_33_15 μ  s0 = some out) (hK : go_out (ggX12_summed_15 w tx Q  ) (eeX12_summed_15 w tx Q  ) out) : Go w 7 0 0 mtX12_summed 33 [(0, .ref 401)] [.int s0] (go_mk tx μ) (go_Z w Q) := by
  unfold jjX12_summed_33_15 at h
  refine go_istore_n dX12_summed_33 (by decide) rfl ?_
  show Go w 7 0 0 mtX12_summed 34 [(1, .int s0), (0, .ref 401)] [] (go_mk tx μ) (go_Z w Q)
  refine go_iload_n dX12_summed_34 0 rfl ?_
  refine go_if_le 40 dX12_summed_35 (by decide) (fun hc => ?_) (fun hc => ?_)
  · have h := go_ifp hc h
    refine go_iload_n dX12_summed_40 0 rfl ?_
    refine go_if_ne 47 dX12_summed_41 (by decide) (fun hc => ?_) (fun hc => ?_)
    · have h := go_ifn hc h
      cases h
      have hK : Go w 7 0 0 mtX12_summed 47 [(0, .ref 401)] [] (go_mk tx μ) (go_Z w Q) := hK
      exact go_pick [1] rfl hK
    · have h := go_ifp hc h
      refine go_goto 15 dX12_summed_44 (by decide) ?_
      cases h
      have hK : Go w 7 0 0 mtX12_summed 15 [(0, .ref 401)] [] (go_mk tx μ) (go_Z w Q) := hK
      exact go_pick [1] rfl hK
  · have h := go_ifn hc h
    refine go_iload_n dX12_summed_38 0 rfl ?_
    cases h
    exact go_iret dX12_summed_39 rfl hK
set_option maxRecDepth 20000 in
set_option maxHeartbeats 4000000 in
theorem lqX12_summed_15 (w : go_Wd) (tx : Nat) (Q : Option Value → go_M → Prop)     (μ : PM) (out : (PM) ⊕ ((PM) ⊕ (Int32 × PM))) (h : lbX12_summed_15  μ = some out) (hK : go_out (ggX12_summed_15 w tx Q  ) (eeX12_summed_15 w tx Q  ) out) : ggX12_summed_15 w tx Q   μ := by
  unfold lbX12_summed_15 at h
  show Go w 7 0 0 mtX12_summed 15 [(0, .ref 401)] [] (go_mk tx μ) (go_Z w Q)
  refine go_aload_n dX12_summed_15 0 rfl ?_
  refine pp_getI dX12_summed_16 ff_X12_198 (by decide) sh_401 ?_
  refine go_if_eq 29 dX12_summed_19 (by decide) (fun hc => ?_) (fun hc => ?_)
  · have h := go_ifp hc h
    refine go_aload_n dX12_summed_29 0 rfl ?_
    obtain ⟨q4, hq4, h⟩ := go_bind h
    refine pp_callV (as := []) (st := []) (rv := (some (.int q4.1))) (μ1 := q4.2) (st1 := [.int q4.1]) dX12_summed_30 ll_X12_216 sh_401 (by decide) rfl (ctX12_beginOne  hq4) rfl (Nat.le_of_ble_eq_true rfl) (Nat.le_of_ble_eq_true rfl) (go_Z_up w _) rfl rfl ?_
    refine go_pick [0] rfl ?_
    exact jqX12_summed_33_15 w tx Q q4.2    q4.1  _ h hK
  · have h := go_ifn hc h
    refine go_aload_n dX12_summed_22 0 rfl ?_
    obtain ⟨q5, hq5, h⟩ := go_bind h
    refine pp_callV (as := []) (st := []) (rv := (some (.int q5.1))) (μ1 := q5.2) (st1 := [.int q5.1]) dX12_summed_23 ll_X12_213 sh_401 (by decide) rfl (ctX12_behindOne  hq5) rfl (Nat.le_of_ble_eq_true rfl) (Nat.le_of_ble_eq_true rfl) (go_Z_up w _) rfl rfl ?_
    refine go_goto 33 dX12_summed_26 (by decide) ?_
    refine go_pick [0] rfl ?_
    exact jqX12_summed_33_15 w tx Q q5.2    q5.1  _ h hK
set_option maxRecDepth 20000 in
set_option maxHeartbeats 4000000 in
theorem cmX12_summed (w : go_Wd) (tx : Nat) (Q : Option Value → go_M → Prop) (μ : PM)  (out : Int32 × PM) (h : fX12_summed μ = some out) (hK : Q (some (.int out.1)) (go_mk tx out.2)) : Go w 7 0 0 mtX12_summed 0 [(0, .ref 401)] [] (go_mk tx μ) (go_Z w Q) := by
  unfold fX12_summed at h
  refine go_aload_n dX12_summed_0 0 rfl ?_
  refine go_iconst (v := 0) dX12_summed_1 (by decide) ?_
  obtain ⟨μ1, hμ1, h⟩ := go_let_e h
  refine pp_putI dX12_summed_2 ff_X12_152 (Or.inl rfl) sh_401 hμ1 ?_
  refine go_aload_n dX12_summed_5 0 rfl ?_
  refine go_iconst (v := 0) dX12_summed_6 (by decide) ?_
  obtain ⟨μ2, hμ2, h⟩ := go_let_e h
  refine pp_putI dX12_summed_7 ff_X12_162 (Or.inl rfl) sh_401 hμ2 ?_
  refine go_aload_n dX12_summed_10 0 rfl ?_
  refine go_iconst (v := 0) dX12_summed_11 (by decide) ?_
  obtain ⟨μ3, hμ3, h⟩ := go_let_e h
  refine pp_putI dX12_summed_12 ff_X12_198 (Or.inr ⟨rfl, (Or.inl rfl)⟩) sh_401 hμ3 ?_
  obtain ⟨ρ6, hρ6, h⟩ := go_bind h
  refine go_pick [0] rfl ?_
  refine go_lp (G := ggX12_summed_15 w tx Q  ) (E := eeX12_summed_15 w tx Q  ) (fun s out h hK => lqX12_summed_15 w tx Q    s out h hK) go_fuel μ3 ρ6 hρ6 ?_
  rcases ρ6 with e7 | y
  · have h := go_csl h
    show Go w 7 0 0 mtX12_summed 47 [(0, .ref 401)] [] (go_mk tx e7) (go_Z w Q)
    refine go_aload_n dX12_summed_47 0 rfl ?_
    obtain ⟨q8, hq8, h⟩ := go_bind h
    refine pp_callV (as := []) (st := []) (rv := (some (.int q8))) (μ1 := e7) (st1 := [.int q8]) dX12_summed_48 ll_X12_169 sh_401 (by decide) rfl (ctX12_openNow  hq8) rfl (Nat.le_of_ble_eq_true rfl) (Nat.le_of_ble_eq_true rfl) (go_Z_up w _) rfl rfl ?_
    refine go_if_lt 56 dX12_summed_51 (by decide) (fun hc => ?_) (fun hc => ?_)
    · have h := go_ifp hc h
      refine go_aload_n dX12_summed_56 0 rfl ?_
      refine go_iconst (v := 1) dX12_summed_57 (by decide) ?_
      obtain ⟨q9, hq9, h⟩ := go_bind h
      refine pp_callV (as := [.int 1]) (st := []) (rv := none) (μ1 := q9) (st1 := []) dX12_summed_58 ll_X12_195 sh_401 (by decide) rfl (ctX12_settle  hq9) rfl (Nat.le_of_ble_eq_true rfl) (Nat.le_of_ble_eq_true rfl) (go_Z_up w _) rfl rfl ?_
      refine go_iconst (v := 0) dX12_summed_61 (by decide) ?_
      cases h
      exact go_iret dX12_summed_62 rfl hK
    · have h := go_ifn hc h
      refine go_iconst (v := 1) dX12_summed_54 (by decide) ?_
      cases h
      exact go_iret dX12_summed_55 rfl hK
  · have h := go_csr h
    cases h
    exact hK
theorem ctX12_summed {w : go_Wd} {tx : Nat} {μ : PM}  {r : Int32} {μ1 : PM}  (h : fX12_summed μ = some (r, μ1)) : Ct w 7 0 0 mtX12_summed [.ref 401] (go_mk tx μ) (fun r' M' => r' = some (.int r) ∧ M' = go_mk tx μ1) :=
  go_entry rfl (by decide) (Nat.le_of_ble_eq_true rfl) (cmX12_summed w tx _ μ  _ h ⟨rfl, rfl⟩)
def fX12_figure (μ : PM) (a0 : Int32) (a1 : Int32) (a2 : Int32) : Option (Int32 × PM) :=
  (if (μ.1 401 9) = 1 then (if (fX12_isIn (μ.1 401 10) a1 a2) = 0 then some ((2, μ)) else go_chk a0 2724 <| go_let (pm_wi μ 404 a0.toNatClampNeg (μ.1 401 10)) fun μ1 => (fX12_nextToken μ1).bind fun q3 => some ((0, q3))) else some ((1, μ)))
set_option maxRecDepth 20000 in
set_option maxHeartbeats 4000000 in
theorem cmX12_figure (w : go_Wd) (tx : Nat) (Q : Option Value → go_M → Prop) (μ : PM) (a0 : Int32) (a1 : Int32) (a2 : Int32) (out : Int32 × PM) (h : fX12_figure μ a0 a1 a2 = some out) (hK : Q (some (.int out.1)) (go_mk tx out.2)) : Go w 2 0 0 mtX12_figure 0 [(0, .ref 401), (1, .int a0), (2, .int a1), (3, .int a2)] [] (go_mk tx μ) (go_Z w Q) := by
  unfold fX12_figure at h
  refine go_aload_n dX12_figure_0 0 rfl ?_
  refine pp_getI dX12_figure_1 ff_X12_102 (by decide) sh_401 ?_
  refine go_iconst (v := 1) dX12_figure_4 (by decide) ?_
  refine go_icmp_eq 10 dX12_figure_5 (by decide) (fun hc => ?_) (fun hc => ?_)
  · have h := go_ifp hc h
    refine go_aload_n dX12_figure_10 0 rfl ?_
    refine pp_getI dX12_figure_11 ff_X12_108 (by decide) sh_401 ?_
    refine go_iload_n dX12_figure_14 2 rfl ?_
    refine go_iload_n dX12_figure_15 3 rfl ?_
    refine pp_callS (as := [.int (μ.1 401 10), .int a1, .int a2]) (st := []) (rv := (some (.int (fX12_isIn (μ.1 401 10) a1 a2)))) (μ1 := μ) (st1 := [.int (fX12_isIn (μ.1 401 10) a1 a2)]) dX12_figure_16 ll_X12_63 (ctX12_isIn  rfl) rfl (Nat.le_of_ble_eq_true rfl) (Nat.le_of_ble_eq_true rfl) (go_Z_up w _) rfl rfl ?_
    refine go_if_ne 24 dX12_figure_19 (by decide) (fun hc => ?_) (fun hc => ?_)
    · have h := go_ifn hc h
      refine go_aload_n dX12_figure_24 0 rfl ?_
      refine pp_getR dX12_figure_25 ff_X12_16 (Or.inr ⟨_, rfl⟩) sh_401 rf_401_2 ?_
      refine go_iload_n dX12_figure_28 1 rfl ?_
      refine go_aload_n dX12_figure_29 0 rfl ?_
      refine pp_getI dX12_figure_30 ff_X12_108 (by decide) sh_401 ?_
      obtain ⟨hz2, h⟩ := go_chk_e h
      obtain ⟨μ1, hμ1, h⟩ := go_let_e h
      refine pp_ist dX12_figure_33 sh_404 hz2 hμ1 ?_
      refine go_aload_n dX12_figure_34 0 rfl ?_
      obtain ⟨q3, hq3, h⟩ := go_bind h
      refine pp_callV (as := []) (st := []) (rv := none) (μ1 := q3) (st1 := []) dX12_figure_35 ll_X12_172 sh_401 (by decide) rfl (ctX12_nextToken  hq3) rfl (Nat.le_of_ble_eq_true rfl) (Nat.le_of_ble_eq_true rfl) (go_Z_up w _) rfl rfl ?_
      refine go_iconst (v := 0) dX12_figure_38 (by decide) ?_
      cases h
      exact go_iret dX12_figure_39 rfl hK
    · have h := go_ifp hc h
      refine go_iconst (v := 2) dX12_figure_22 (by decide) ?_
      cases h
      exact go_iret dX12_figure_23 rfl hK
  · have h := go_ifn hc h
    refine go_iconst (v := 1) dX12_figure_8 (by decide) ?_
    cases h
    exact go_iret dX12_figure_9 rfl hK
theorem ctX12_figure {w : go_Wd} {tx : Nat} {μ : PM} {a0 : Int32} {a1 : Int32} {a2 : Int32} {r : Int32} {μ1 : PM}  (h : fX12_figure μ a0 a1 a2 = some (r, μ1)) : Ct w 2 0 0 mtX12_figure [.ref 401, .int a0, .int a1, .int a2] (go_mk tx μ) (fun r' M' => r' = some (.int r) ∧ M' = go_mk tx μ1) :=
  go_entry rfl (by decide) (Nat.le_of_ble_eq_true rfl) (cmX12_figure w tx _ μ a0 a1 a2 _ h ⟨rfl, rfl⟩)
def fX12_lawClause (μ : PM) (a0 : Int32) : Option (Int32 × PM) :=
  go_chk (a0 + 1) 2724 <| go_let (pm_wi μ 404 ((a0 + 1) : Int32).toNatClampNeg (μ.1 401 13)) fun μ1 => (fX12_summed μ1).bind fun q3 => go_chk (a0 + 2) 2724 <| go_let (pm_wi q3.2 404 ((a0 + 2) : Int32).toNatClampNeg (q3.2.1 401 13)) fun μ4 => some ((q3.1, μ4))
set_option maxRecDepth 20000 in
set_option maxHeartbeats 4000000 in
theorem cmX12_lawClause (w : go_Wd) (tx : Nat) (Q : Option Value → go_M → Prop) (μ : PM) (a0 : Int32) (out : Int32 × PM) (h : fX12_lawClause μ a0 = some out) (hK : Q (some (.int out.1)) (go_mk tx out.2)) : Go w 8 0 0 mtX12_lawClause 0 [(0, .ref 401), (1, .int a0)] [] (go_mk tx μ) (go_Z w Q) := by
  unfold fX12_lawClause at h
  refine go_aload_n dX12_lawClause_0 0 rfl ?_
  refine pp_getR dX12_lawClause_1 ff_X12_16 (Or.inr ⟨_, rfl⟩) sh_401 rf_401_2 ?_
  refine go_iload_n dX12_lawClause_4 1 rfl ?_
  refine go_iconst (v := 1) dX12_lawClause_5 (by decide) ?_
  refine go_iadd dX12_lawClause_6 ?_
  refine go_aload_n dX12_lawClause_7 0 rfl ?_
  refine pp_getI dX12_lawClause_8 ff_X12_142 (by decide) sh_401 ?_
  obtain ⟨hz2, h⟩ := go_chk_e h
  obtain ⟨μ1, hμ1, h⟩ := go_let_e h
  refine pp_ist dX12_lawClause_11 sh_404 hz2 hμ1 ?_
  refine go_aload_n dX12_lawClause_12 0 rfl ?_
  obtain ⟨q3, hq3, h⟩ := go_bind h
  refine pp_callV (as := []) (st := []) (rv := (some (.int q3.1))) (μ1 := q3.2) (st1 := [.int q3.1]) dX12_lawClause_13 ll_X12_219 sh_401 (by decide) rfl (ctX12_summed  hq3) rfl (Nat.le_of_ble_eq_true rfl) (Nat.le_of_ble_eq_true rfl) (go_Z_up w _) rfl rfl ?_
  refine go_istore_n dX12_lawClause_16 (by decide) rfl ?_
  show Go w 8 0 0 mtX12_lawClause 17 [(2, .int q3.1), (0, .ref 401), (1, .int a0)] [] (go_mk tx q3.2) (go_Z w Q)
  refine go_aload_n dX12_lawClause_17 1 rfl ?_
  refine pp_getR dX12_lawClause_18 ff_X12_16 (Or.inr ⟨_, rfl⟩) sh_401 rf_401_2 ?_
  refine go_iload_n dX12_lawClause_21 2 rfl ?_
  refine go_iconst (v := 2) dX12_lawClause_22 (by decide) ?_
  refine go_iadd dX12_lawClause_23 ?_
  refine go_aload_n dX12_lawClause_24 1 rfl ?_
  refine pp_getI dX12_lawClause_25 ff_X12_142 (by decide) sh_401 ?_
  obtain ⟨hz5, h⟩ := go_chk_e h
  obtain ⟨μ4, hμ4, h⟩ := go_let_e h
  refine pp_ist dX12_lawClause_28 sh_404 hz5 hμ4 ?_
  refine go_iload_n dX12_lawClause_29 0 rfl ?_
  cases h
  exact go_iret dX12_lawClause_30 rfl hK
theorem ctX12_lawClause {w : go_Wd} {tx : Nat} {μ : PM} {a0 : Int32} {r : Int32} {μ1 : PM}  (h : fX12_lawClause μ a0 = some (r, μ1)) : Ct w 8 0 0 mtX12_lawClause [.ref 401, .int a0] (go_mk tx μ) (fun r' M' => r' = some (.int r) ∧ M' = go_mk tx μ1) :=
  go_entry rfl (by decide) (Nat.le_of_ble_eq_true rfl) (cmX12_lawClause w tx _ μ a0 _ h ⟨rfl, rfl⟩)
def fX12_pair (μ : PM) (a0 : Int32) (a1 : Int32) (a2 : Int32) (a3 : Int64) (a4 : Int32) : Option (Int32 × PM) :=
  (fX12_figure μ (a0 + 1) a1 a2).bind fun q1 => (if q1.1 = 0 then (if (fX12_isWord q1.2 a3) = 0 then some ((1, q1.2)) else (fX12_nextToken q1.2).bind fun q2 => (fX12_figure q2 (a0 + 2) 0 a4).bind fun q3 => some ((q3.1, q3.2))) else some ((q1.1, q1.2)))
set_option maxRecDepth 20000 in
set_option maxHeartbeats 4000000 in
theorem cmX12_pair (w : go_Wd) (tx : Nat) (Q : Option Value → go_M → Prop) (μ : PM) (a0 : Int32) (a1 : Int32) (a2 : Int32) (a3 : Int64) (a4 : Int32) (out : Int32 × PM) (h : fX12_pair μ a0 a1 a2 a3 a4 = some out) (hK : Q (some (.int out.1)) (go_mk tx out.2)) : Go w 3 0 0 mtX12_pair 0 [(0, .ref 401), (1, .int a0), (2, .int a1), (3, .int a2), (4, .long a3), (6, .int a4)] [] (go_mk tx μ) (go_Z w Q) := by
  unfold fX12_pair at h
  refine go_aload_n dX12_pair_0 0 rfl ?_
  refine go_iload_n dX12_pair_1 1 rfl ?_
  refine go_iconst (v := 1) dX12_pair_2 (by decide) ?_
  refine go_iadd dX12_pair_3 ?_
  refine go_iload_n dX12_pair_4 2 rfl ?_
  refine go_iload_n dX12_pair_5 3 rfl ?_
  obtain ⟨q1, hq1, h⟩ := go_bind h
  refine pp_callV (as := [.int (a0 + 1), .int a1, .int a2]) (st := []) (rv := (some (.int q1.1))) (μ1 := q1.2) (st1 := [.int q1.1]) dX12_pair_6 ll_X12_222 sh_401 (by decide) rfl (ctX12_figure  hq1) rfl (Nat.le_of_ble_eq_true rfl) (Nat.le_of_ble_eq_true rfl) (go_Z_up w _) rfl rfl ?_
  refine go_istore dX12_pair_9 (by decide) rfl ?_
  show Go w 3 0 0 mtX12_pair 11 [(7, .int q1.1), (0, .ref 401), (1, .int a0), (2, .int a1), (3, .int a2), (4, .long a3), (6, .int a4)] [] (go_mk tx q1.2) (go_Z w Q)
  refine go_iload dX12_pair_11 0 rfl ?_
  refine go_if_eq 19 dX12_pair_13 (by decide) (fun hc => ?_) (fun hc => ?_)
  · have h := go_ifp hc h
    refine go_aload_n dX12_pair_19 1 rfl ?_
    refine go_lload dX12_pair_20 5 rfl ?_
    refine pp_callV (as := [.long a3]) (st := []) (rv := (some (.int (fX12_isWord q1.2 a3)))) (μ1 := q1.2) (st1 := [.int (fX12_isWord q1.2 a3)]) dX12_pair_22 ll_X12_187 sh_401 (by decide) rfl (ctX12_isWord  rfl) rfl (Nat.le_of_ble_eq_true rfl) (Nat.le_of_ble_eq_true rfl) (go_Z_up w _) rfl rfl ?_
    refine go_if_ne 30 dX12_pair_25 (by decide) (fun hc => ?_) (fun hc => ?_)
    · have h := go_ifn hc h
      refine go_aload_n dX12_pair_30 1 rfl ?_
      obtain ⟨q2, hq2, h⟩ := go_bind h
      refine pp_callV (as := []) (st := []) (rv := none) (μ1 := q2) (st1 := []) dX12_pair_31 ll_X12_172 sh_401 (by decide) rfl (ctX12_nextToken  hq2) rfl (Nat.le_of_ble_eq_true rfl) (Nat.le_of_ble_eq_true rfl) (go_Z_up w _) rfl rfl ?_
      refine go_aload_n dX12_pair_34 1 rfl ?_
      refine go_iload_n dX12_pair_35 2 rfl ?_
      refine go_iconst (v := 2) dX12_pair_36 (by decide) ?_
      refine go_iadd dX12_pair_37 ?_
      refine go_iconst (v := 0) dX12_pair_38 (by decide) ?_
      refine go_iload dX12_pair_39 6 rfl ?_
      obtain ⟨q3, hq3, h⟩ := go_bind h
      refine pp_callV (as := [.int (a0 + 2), .int 0, .int a4]) (st := []) (rv := (some (.int q3.1))) (μ1 := q3.2) (st1 := [.int q3.1]) dX12_pair_41 ll_X12_222 sh_401 (by decide) rfl (ctX12_figure  hq3) rfl (Nat.le_of_ble_eq_true rfl) (Nat.le_of_ble_eq_true rfl) (go_Z_up w _) rfl rfl ?_
      cases h
      exact go_iret dX12_pair_44 rfl hK
    · have h := go_ifp hc h
      refine go_iconst (v := 1) dX12_pair_28 (by decide) ?_
      cases h
      exact go_iret dX12_pair_29 rfl hK
  · have h := go_ifn hc h
    refine go_iload dX12_pair_16 0 rfl ?_
    cases h
    exact go_iret dX12_pair_18 rfl hK
theorem ctX12_pair {w : go_Wd} {tx : Nat} {μ : PM} {a0 : Int32} {a1 : Int32} {a2 : Int32} {a3 : Int64} {a4 : Int32} {r : Int32} {μ1 : PM}  (h : fX12_pair μ a0 a1 a2 a3 a4 = some (r, μ1)) : Ct w 3 0 0 mtX12_pair [.ref 401, .int a0, .int a1, .int a2, .long a3, .int a4] (go_mk tx μ) (fun r' M' => r' = some (.int r) ∧ M' = go_mk tx μ1) :=
  go_entry rfl (by decide) (Nat.le_of_ble_eq_true rfl) (cmX12_pair w tx _ μ a0 a1 a2 a3 a4 _ h ⟨rfl, rfl⟩)
def jjX12_body_83 (μ : PM) (a0 : Int32) (a1 : Int32)   : Option (Int32 × PM) :=
  (fX12_pair μ a1 1 9999 (fX12_w2 105 110) 9).bind fun q2 => some ((q2.1, q2.2))
def fX12_body (μ : PM) (a0 : Int32) (a1 : Int32) : Option (Int32 × PM) :=
  (if a0 = 3 then (if (μ.1 401 9) = 1 then (if (fX12_isIn (μ.1 401 10) 1 9999) = 0 then jjX12_body_83 μ a0 a1 else (fX12_areSounds (μ.1 401 10)).bind fun q3 => (if q3 = 0 then some ((7, μ)) else jjX12_body_83 μ a0 a1)) else jjX12_body_83 μ a0 a1) else (if a0 = 4 then (fX12_pair μ a1 1 9 (fX12_w2 97 116) 9).bind fun q5 => some ((q5.1, q5.2)) else (if a0 = 5 then (fX12_figure μ (a1 + 1) 0 5).bind fun q7 => some ((q7.1, q7.2)) else (if a0 = 6 then (fX12_figure μ (a1 + 1) 0 9).bind fun q9 => some ((q9.1, q9.2)) else (if a0 = 7 then (fX12_figure μ (a1 + 1) 0 9).bind fun q11 => some ((q11.1, q11.2)) else (if a0 = 8 then (fX12_pair μ a1 0 4 (fX12_w2 97 116) 9).bind fun q13 => some ((q13.1, q13.2)) else (if a0 = 9 then (fX12_figure μ (a1 + 1) 0 5).bind fun q15 => some ((q15.1, q15.2)) else (if a0 = 10 then (fX12_figure μ (a1 + 1) 1 60).bind fun q17 => some ((q17.1, q17.2)) else (fX12_lawClause μ a1).bind fun q18 => some ((q18.1, q18.2))))))))))
set_option maxRecDepth 20000 in
set_option maxHeartbeats 4000000 in
theorem jqX12_body_83 (w : go_Wd) (tx : Nat) (Q : Option Value → go_M → Prop) (μ : PM) (a0 : Int32) (a1 : Int32)     (out : Int32 × PM) (h : jjX12_body_83 μ a0 a1   = some out) (hK : Q (some (.int out.1)) (go_mk tx out.2)) : Go w 9 0 0 mtX12_body 83 [(0, .ref 401), (2, .int a1)] [] (go_mk tx μ) (go_Z w Q) := by
  unfold jjX12_body_83 at h
  refine go_aload_n dX12_body_83 0 rfl ?_
  refine go_iload_n dX12_body_84 1 rfl ?_
  refine go_iconst (v := 1) dX12_body_85 (by decide) ?_
  refine go_sipush (v := 9999) dX12_body_86 (by decide) ?_
  refine go_bipush (v := 105) dX12_body_89 (by decide) ?_
  refine go_bipush (v := 110) dX12_body_91 (by decide) ?_
  refine pp_callS (as := [.int 105, .int 110]) (st := [.int 9999, .int 1, .int a1, .ref 401]) (rv := (some (.long (fX12_w2 105 110)))) (μ1 := μ) (st1 := [.long (fX12_w2 105 110), .int 9999, .int 1, .int a1, .ref 401]) dX12_body_93 ll_X12_123 (ctX12_w2  rfl) rfl (Nat.le_of_ble_eq_true rfl) (Nat.le_of_ble_eq_true rfl) (go_Z_up w _) rfl rfl ?_
  refine go_bipush (v := 9) dX12_body_96 (by decide) ?_
  obtain ⟨q2, hq2, h⟩ := go_bind h
  refine pp_callV (as := [.int a1, .int 1, .int 9999, .long (fX12_w2 105 110), .int 9]) (st := []) (rv := (some (.int q2.1))) (μ1 := q2.2) (st1 := [.int q2.1]) dX12_body_98 ll_X12_226 sh_401 (by decide) rfl (ctX12_pair  hq2) rfl (Nat.le_of_ble_eq_true rfl) (Nat.le_of_ble_eq_true rfl) (go_Z_up w _) rfl rfl ?_
  cases h
  exact go_iret dX12_body_101 rfl hK
set_option maxRecDepth 20000 in
set_option maxHeartbeats 4000000 in
theorem cmX12_body (w : go_Wd) (tx : Nat) (Q : Option Value → go_M → Prop) (μ : PM) (a0 : Int32) (a1 : Int32) (out : Int32 × PM) (h : fX12_body μ a0 a1 = some out) (hK : Q (some (.int out.1)) (go_mk tx out.2)) : Go w 9 0 0 mtX12_body 0 [(0, .ref 401), (1, .int a0), (2, .int a1)] [] (go_mk tx μ) (go_Z w Q) := by
  unfold fX12_body at h
  refine go_iload_n dX12_body_0 1 rfl ?_
  by_cases hc1 : a0 = 3
  · have h := go_ifp hc1 h
    refine go_tabIn (off := 47) 48 dX12_body_1 3 hc1 (by decide) (by decide) (by decide) (by decide) ?_
    refine go_aload_n dX12_body_48 0 rfl ?_
    refine pp_getI dX12_body_49 ff_X12_102 (by decide) sh_401 ?_
    refine go_iconst (v := 1) dX12_body_52 (by decide) ?_
    refine go_icmp_ne 83 dX12_body_53 (by decide) (fun hc => ?_) (fun hc => ?_)
    · have h := go_ifn hc h
      refine go_pick [0, 2] rfl ?_
      exact jqX12_body_83 w tx Q μ a0 a1     _ h hK
    · have h := go_ifp hc h
      refine go_aload_n dX12_body_56 0 rfl ?_
      refine pp_getI dX12_body_57 ff_X12_108 (by decide) sh_401 ?_
      refine go_iconst (v := 1) dX12_body_60 (by decide) ?_
      refine go_sipush (v := 9999) dX12_body_61 (by decide) ?_
      refine pp_callS (as := [.int (μ.1 401 10), .int 1, .int 9999]) (st := []) (rv := (some (.int (fX12_isIn (μ.1 401 10) 1 9999)))) (μ1 := μ) (st1 := [.int (fX12_isIn (μ.1 401 10) 1 9999)]) dX12_body_64 ll_X12_63 (ctX12_isIn  rfl) rfl (Nat.le_of_ble_eq_true rfl) (Nat.le_of_ble_eq_true rfl) (go_Z_up w _) rfl rfl ?_
      refine go_if_eq 83 dX12_body_67 (by decide) (fun hc => ?_) (fun hc => ?_)
      · have h := go_ifp hc h
        refine go_pick [0, 2] rfl ?_
        exact jqX12_body_83 w tx Q μ a0 a1     _ h hK
      · have h := go_ifn hc h
        refine go_aload_n dX12_body_70 0 rfl ?_
        refine pp_getI dX12_body_71 ff_X12_108 (by decide) sh_401 ?_
        obtain ⟨q3, hq3, h⟩ := go_bind h
        refine pp_callS (as := [.int (μ.1 401 10)]) (st := []) (rv := (some (.int q3))) (μ1 := μ) (st1 := [.int q3]) dX12_body_74 ll_X12_68 (ctX12_areSounds  hq3) rfl (Nat.le_of_ble_eq_true rfl) (Nat.le_of_ble_eq_true rfl) (go_Z_up w _) rfl rfl ?_
        refine go_if_ne 83 dX12_body_77 (by decide) (fun hc => ?_) (fun hc => ?_)
        · have h := go_ifn hc h
          refine go_pick [0, 2] rfl ?_
          exact jqX12_body_83 w tx Q μ a0 a1     _ h hK
        · have h := go_ifp hc h
          refine go_bipush (v := 7) dX12_body_80 (by decide) ?_
          cases h
          exact go_iret dX12_body_82 rfl hK
  · have h := go_ifn hc1 h
    by_cases hc4 : a0 = 4
    · have h := go_ifp hc4 h
      refine go_tabIn (off := 101) 102 dX12_body_1 4 hc4 (by decide) (by decide) (by decide) (by decide) ?_
      refine go_aload_n dX12_body_102 0 rfl ?_
      refine go_iload_n dX12_body_103 2 rfl ?_
      refine go_iconst (v := 1) dX12_body_104 (by decide) ?_
      refine go_bipush (v := 9) dX12_body_105 (by decide) ?_
      refine go_bipush (v := 97) dX12_body_107 (by decide) ?_
      refine go_bipush (v := 116) dX12_body_109 (by decide) ?_
      refine pp_callS (as := [.int 97, .int 116]) (st := [.int 9, .int 1, .int a1, .ref 401]) (rv := (some (.long (fX12_w2 97 116)))) (μ1 := μ) (st1 := [.long (fX12_w2 97 116), .int 9, .int 1, .int a1, .ref 401]) dX12_body_111 ll_X12_123 (ctX12_w2  rfl) rfl (Nat.le_of_ble_eq_true rfl) (Nat.le_of_ble_eq_true rfl) (go_Z_up w _) rfl rfl ?_
      refine go_bipush (v := 9) dX12_body_114 (by decide) ?_
      obtain ⟨q5, hq5, h⟩ := go_bind h
      refine pp_callV (as := [.int a1, .int 1, .int 9, .long (fX12_w2 97 116), .int 9]) (st := []) (rv := (some (.int q5.1))) (μ1 := q5.2) (st1 := [.int q5.1]) dX12_body_116 ll_X12_226 sh_401 (by decide) rfl (ctX12_pair  hq5) rfl (Nat.le_of_ble_eq_true rfl) (Nat.le_of_ble_eq_true rfl) (go_Z_up w _) rfl rfl ?_
      cases h
      exact go_iret dX12_body_119 rfl hK
    · have h := go_ifn hc4 h
      by_cases hc6 : a0 = 5
      · have h := go_ifp hc6 h
        refine go_tabIn (off := 119) 120 dX12_body_1 5 hc6 (by decide) (by decide) (by decide) (by decide) ?_
        refine go_aload_n dX12_body_120 0 rfl ?_
        refine go_iload_n dX12_body_121 2 rfl ?_
        refine go_iconst (v := 1) dX12_body_122 (by decide) ?_
        refine go_iadd dX12_body_123 ?_
        refine go_iconst (v := 0) dX12_body_124 (by decide) ?_
        refine go_iconst (v := 5) dX12_body_125 (by decide) ?_
        obtain ⟨q7, hq7, h⟩ := go_bind h
        refine pp_callV (as := [.int (a1 + 1), .int 0, .int 5]) (st := []) (rv := (some (.int q7.1))) (μ1 := q7.2) (st1 := [.int q7.1]) dX12_body_126 ll_X12_222 sh_401 (by decide) rfl (ctX12_figure  hq7) rfl (Nat.le_of_ble_eq_true rfl) (Nat.le_of_ble_eq_true rfl) (go_Z_up w _) rfl rfl ?_
        cases h
        exact go_iret dX12_body_129 rfl hK
      · have h := go_ifn hc6 h
        by_cases hc8 : a0 = 6
        · have h := go_ifp hc8 h
          refine go_tabIn (off := 129) 130 dX12_body_1 6 hc8 (by decide) (by decide) (by decide) (by decide) ?_
          refine go_aload_n dX12_body_130 0 rfl ?_
          refine go_iload_n dX12_body_131 2 rfl ?_
          refine go_iconst (v := 1) dX12_body_132 (by decide) ?_
          refine go_iadd dX12_body_133 ?_
          refine go_iconst (v := 0) dX12_body_134 (by decide) ?_
          refine go_bipush (v := 9) dX12_body_135 (by decide) ?_
          obtain ⟨q9, hq9, h⟩ := go_bind h
          refine pp_callV (as := [.int (a1 + 1), .int 0, .int 9]) (st := []) (rv := (some (.int q9.1))) (μ1 := q9.2) (st1 := [.int q9.1]) dX12_body_137 ll_X12_222 sh_401 (by decide) rfl (ctX12_figure  hq9) rfl (Nat.le_of_ble_eq_true rfl) (Nat.le_of_ble_eq_true rfl) (go_Z_up w _) rfl rfl ?_
          cases h
          exact go_iret dX12_body_140 rfl hK
        · have h := go_ifn hc8 h
          by_cases hc10 : a0 = 7
          · have h := go_ifp hc10 h
            refine go_tabIn (off := 140) 141 dX12_body_1 7 hc10 (by decide) (by decide) (by decide) (by decide) ?_
            refine go_aload_n dX12_body_141 0 rfl ?_
            refine go_iload_n dX12_body_142 2 rfl ?_
            refine go_iconst (v := 1) dX12_body_143 (by decide) ?_
            refine go_iadd dX12_body_144 ?_
            refine go_iconst (v := 0) dX12_body_145 (by decide) ?_
            refine go_bipush (v := 9) dX12_body_146 (by decide) ?_
            obtain ⟨q11, hq11, h⟩ := go_bind h
            refine pp_callV (as := [.int (a1 + 1), .int 0, .int 9]) (st := []) (rv := (some (.int q11.1))) (μ1 := q11.2) (st1 := [.int q11.1]) dX12_body_148 ll_X12_222 sh_401 (by decide) rfl (ctX12_figure  hq11) rfl (Nat.le_of_ble_eq_true rfl) (Nat.le_of_ble_eq_true rfl) (go_Z_up w _) rfl rfl ?_
            cases h
            exact go_iret dX12_body_151 rfl hK
          · have h := go_ifn hc10 h
            by_cases hc12 : a0 = 8
            · have h := go_ifp hc12 h
              refine go_tabIn (off := 151) 152 dX12_body_1 8 hc12 (by decide) (by decide) (by decide) (by decide) ?_
              refine go_aload_n dX12_body_152 0 rfl ?_
              refine go_iload_n dX12_body_153 2 rfl ?_
              refine go_iconst (v := 0) dX12_body_154 (by decide) ?_
              refine go_iconst (v := 4) dX12_body_155 (by decide) ?_
              refine go_bipush (v := 97) dX12_body_156 (by decide) ?_
              refine go_bipush (v := 116) dX12_body_158 (by decide) ?_
              refine pp_callS (as := [.int 97, .int 116]) (st := [.int 4, .int 0, .int a1, .ref 401]) (rv := (some (.long (fX12_w2 97 116)))) (μ1 := μ) (st1 := [.long (fX12_w2 97 116), .int 4, .int 0, .int a1, .ref 401]) dX12_body_160 ll_X12_123 (ctX12_w2  rfl) rfl (Nat.le_of_ble_eq_true rfl) (Nat.le_of_ble_eq_true rfl) (go_Z_up w _) rfl rfl ?_
              refine go_bipush (v := 9) dX12_body_163 (by decide) ?_
              obtain ⟨q13, hq13, h⟩ := go_bind h
              refine pp_callV (as := [.int a1, .int 0, .int 4, .long (fX12_w2 97 116), .int 9]) (st := []) (rv := (some (.int q13.1))) (μ1 := q13.2) (st1 := [.int q13.1]) dX12_body_165 ll_X12_226 sh_401 (by decide) rfl (ctX12_pair  hq13) rfl (Nat.le_of_ble_eq_true rfl) (Nat.le_of_ble_eq_true rfl) (go_Z_up w _) rfl rfl ?_
              cases h
              exact go_iret dX12_body_168 rfl hK
            · have h := go_ifn hc12 h
              by_cases hc14 : a0 = 9
              · have h := go_ifp hc14 h
                refine go_tabIn (off := 168) 169 dX12_body_1 9 hc14 (by decide) (by decide) (by decide) (by decide) ?_
                refine go_aload_n dX12_body_169 0 rfl ?_
                refine go_iload_n dX12_body_170 2 rfl ?_
                refine go_iconst (v := 1) dX12_body_171 (by decide) ?_
                refine go_iadd dX12_body_172 ?_
                refine go_iconst (v := 0) dX12_body_173 (by decide) ?_
                refine go_iconst (v := 5) dX12_body_174 (by decide) ?_
                obtain ⟨q15, hq15, h⟩ := go_bind h
                refine pp_callV (as := [.int (a1 + 1), .int 0, .int 5]) (st := []) (rv := (some (.int q15.1))) (μ1 := q15.2) (st1 := [.int q15.1]) dX12_body_175 ll_X12_222 sh_401 (by decide) rfl (ctX12_figure  hq15) rfl (Nat.le_of_ble_eq_true rfl) (Nat.le_of_ble_eq_true rfl) (go_Z_up w _) rfl rfl ?_
                cases h
                exact go_iret dX12_body_178 rfl hK
              · have h := go_ifn hc14 h
                by_cases hc16 : a0 = 10
                · have h := go_ifp hc16 h
                  refine go_tabIn (off := 178) 179 dX12_body_1 10 hc16 (by decide) (by decide) (by decide) (by decide) ?_
                  refine go_aload_n dX12_body_179 0 rfl ?_
                  refine go_iload_n dX12_body_180 2 rfl ?_
                  refine go_iconst (v := 1) dX12_body_181 (by decide) ?_
                  refine go_iadd dX12_body_182 ?_
                  refine go_iconst (v := 1) dX12_body_183 (by decide) ?_
                  refine go_bipush (v := 60) dX12_body_184 (by decide) ?_
                  obtain ⟨q17, hq17, h⟩ := go_bind h
                  refine pp_callV (as := [.int (a1 + 1), .int 1, .int 60]) (st := []) (rv := (some (.int q17.1))) (μ1 := q17.2) (st1 := [.int q17.1]) dX12_body_186 ll_X12_222 sh_401 (by decide) rfl (ctX12_figure  hq17) rfl (Nat.le_of_ble_eq_true rfl) (Nat.le_of_ble_eq_true rfl) (go_Z_up w _) rfl rfl ?_
                  cases h
                  exact go_iret dX12_body_189 rfl hK
                · have h := go_ifn hc16 h
                  refine go_tabOut 190 dX12_body_1 (by have g0 := go_ne_i (n := 3) hc1 (by decide); have g1 := go_ne_i (n := 4) hc4 (by decide); have g2 := go_ne_i (n := 5) hc6 (by decide); have g3 := go_ne_i (n := 6) hc8 (by decide); have g4 := go_ne_i (n := 7) hc10 (by decide); have g5 := go_ne_i (n := 8) hc12 (by decide); have g6 := go_ne_i (n := 9) hc14 (by decide); have g7 := go_ne_i (n := 10) hc16 (by decide); omega) (by decide) ?_
                  refine go_aload_n dX12_body_190 0 rfl ?_
                  refine go_iload_n dX12_body_191 2 rfl ?_
                  obtain ⟨q18, hq18, h⟩ := go_bind h
                  refine pp_callV (as := [.int a1]) (st := []) (rv := (some (.int q18.1))) (μ1 := q18.2) (st1 := [.int q18.1]) dX12_body_192 ll_X12_230 sh_401 (by decide) rfl (ctX12_lawClause  hq18) rfl (Nat.le_of_ble_eq_true rfl) (Nat.le_of_ble_eq_true rfl) (go_Z_up w _) rfl rfl ?_
                  cases h
                  exact go_iret dX12_body_195 rfl hK
theorem ctX12_body {w : go_Wd} {tx : Nat} {μ : PM} {a0 : Int32} {a1 : Int32} {r : Int32} {μ1 : PM}  (h : fX12_body μ a0 a1 = some (r, μ1)) : Ct w 9 0 0 mtX12_body [.ref 401, .int a0, .int a1] (go_mk tx μ) (fun r' M' => r' = some (.int r) ∧ M' = go_mk tx μ1) :=
  go_entry rfl (by decide) (Nat.le_of_ble_eq_true rfl) (cmX12_body w tx _ μ a0 a1 _ h ⟨rfl, rfl⟩)