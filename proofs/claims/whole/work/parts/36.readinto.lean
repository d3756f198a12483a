def lbX6_readInto_58 (tx : Nat) (a1 : Int32)  (v3 : Int32) (μ : PM) : Option ((Int32 × PM) ⊕ (PM)) :=
  (if 24 < v3 then some (.inr (μ)) else (if (μ.1 372 6) = 53 then some (.inr (μ)) else (fX6_readClause tx μ).bind fun q7 => some (.inl ((v3 + 1), q7))))
def fX6_readInto (tx : Nat) (μ : PM) (a1 : Int32) : Option PM :=
  (fX8_empty μ tx).bind fun q1 => go_let (pm_wi q1 372 8 0) fun μ2 => go_let (pm_wi μ2 372 9 (-1)) fun μ3 => (fX6_splitTape μ3 (jmin a1 (jmin 300 300))).bind fun q4 => go_let (pm_wi q4 372 5 0) fun μ5 => go_let (pm_wi μ5 372 6 (μ5.1 373 0)) fun μ6 => ((lp (fun s => lbX6_readInto_58 tx a1 s.1 s.2) go_fuel (0, μ6)).bind fun ρ8 => some ρ8)
def ggX6_readInto_58 (w : go_Wd) (tx : Nat) (Q : Option Value → go_M → Prop) (a1 : Int32)  (s : Int32 × PM) : Prop := Go w 542 0 0 mtX6_readInto 58 [(0, .ref 372), (3, .int s.1)] [] (go_mk tx s.2) (go_Z w Q)
def eeX6_readInto_58 (w : go_Wd) (tx : Nat) (Q : Option Value → go_M → Prop) (a1 : Int32)  (y : PM) : Prop := Q none (go_mk tx y)
set_option maxRecDepth 20000 in
set_option maxHeartbeats 4000000 in
theorem lqX6_readInto_58 (w : go_Wd) (tx : Nat) (Q : Option Value → go_M → Prop) (a1 : Int32) (htx : go_isT tx)   (v3 : Int32) (μ : PM) (out : (Int32 × PM) ⊕ (PM)) (h : lbX6_readInto_58 tx a1  v3 μ = some out) (hK : go_out (ggX6_readInto_58 w tx Q a1 ) (eeX6_readInto_58 w tx Q a1 ) out) : ggX6_readInto_58 w tx Q a1  (v3, μ) := by
  unfold lbX6_readInto_58 at h
  show Go w 542 0 0 mtX6_readInto 58 [(0, .ref 372), (3, .int v3)] [] (go_mk tx μ) (go_Z w Q)
  refine go_iload_n dX6_readInto_58 1 rfl ?_
  refine go_bipush (v := 24) dX6_readInto_59 (by decide) ?_
  refine go_icmp_gt 83 dX6_readInto_61 (by decide) (fun hc => ?_) (fun hc => ?_)
  · have h := go_ifp hc h
    cases h
    exact go_vret dX6_readInto_83 rfl hK
  · have h := go_ifn hc h
    refine go_aload_n dX6_readInto_64 0 rfl ?_
    refine pp_getI dX6_readInto_65 ff_X6_54 (by decide) sh_372 ?_
    refine go_bipush (v := 53) dX6_readInto_68 (by decide) ?_
    refine go_icmp_eq 83 dX6_readInto_70 (by decide) (fun hc => ?_) (fun hc => ?_)
    · have h := go_ifp hc h
      cases h
      exact go_vret dX6_readInto_83 rfl hK
    · have h := go_ifn hc h
      refine go_aload_n dX6_readInto_73 0 rfl ?_
      obtain ⟨q7, hq7, h⟩ := go_bind h
      refine pp_callV (as := []) (st := []) (rv := none) (μ1 := q7) (st1 := []) dX6_readInto_74 ll_X6_57 sh_372 (by decide) rfl (ctX6_readClause htx hq7) rfl (Nat.le_of_ble_eq_true rfl) (Nat.le_of_ble_eq_true rfl) (go_Z_up w _) rfl rfl ?_
      refine go_iinc (v := (v3 + 1)) dX6_readInto_77 1 rfl rfl (by decide) rfl ?_
      show Go w 542 0 0 mtX6_readInto 80 [(3, .int (v3 + 1)), (0, .ref 372)] [] (go_mk tx q7) (go_Z w Q)
      refine go_goto 58 dX6_readInto_80 (by decide) ?_
      cases h
      have hK : Go w 542 0 0 mtX6_readInto 58 [(0, .ref 372), (3, .int (v3 + 1))] [] (go_mk tx q7) (go_Z w Q) := hK
      exact go_pick [1, 0] rfl hK
set_option maxRecDepth 20000 in
set_option maxHeartbeats 4000000 in
theorem cmX6_readInto (w : go_Wd) (tx : Nat) (Q : Option Value → go_M → Prop) (μ : PM) (a1 : Int32) (htx : go_isT tx) (out : PM) (h : fX6_readInto tx μ a1 = some out) (hK : Q none (go_mk tx out)) : Go w 542 0 0 mtX6_readInto 5 [(0, .ref 372), (1, .ref tx), (2, .int a1)] [] (go_mk tx μ) (go_Z w Q) := by
  unfold fX6_readInto at h
  refine go_aload_n dX6_readInto_5 0 rfl ?_
  refine pp_getR dX6_readInto_6 ff_X6_27 (Or.inl ⟨_, rfl⟩) sh_372 go_RF_tx ?_
  obtain ⟨q1, hq1, h⟩ := go_bind h
  refine pp_callV (as := []) (st := []) (rv := none) (μ1 := q1) (st1 := []) dX6_readInto_9 ll_X6_31 htx.1 (by decide) rfl (ctX8_empty htx hq1) rfl (Nat.le_of_ble_eq_true rfl) (Nat.le_of_ble_eq_true rfl) (go_Z_up w _) rfl rfl ?_
  refine go_aload_n dX6_readInto_12 0 rfl ?_
  refine go_iconst (v := 0) dX6_readInto_13 (by decide) ?_
  obtain ⟨μ2, hμ2, h⟩ := go_let_e h
  refine pp_putI dX6_readInto_14 ff_X6_34 (Or.inl rfl) sh_372 hμ2 ?_
  refine go_aload_n dX6_readInto_17 0 rfl ?_
  refine go_iconst (v := (-1)) dX6_readInto_18 (by decide) ?_
  obtain ⟨μ3, hμ3, h⟩ := go_let_e h
  refine pp_putI dX6_readInto_19 ff_X6_38 (Or.inl rfl) sh_372 hμ3 ?_
  refine go_aload_n dX6_readInto_22 0 rfl ?_
  refine go_iload_n dX6_readInto_23 2 rfl ?_
  refine go_sipush (v := 300) dX6_readInto_24 (by decide) ?_
  refine go_aload_n dX6_readInto_27 0 rfl ?_
  refine pp_getR dX6_readInto_28 ff_X6_21 (Or.inr ⟨_, rfl⟩) sh_372 rf_372_0 ?_
  refine pp_alen (v := 300) dX6_readInto_31 sh_371 (by decide) ?_
  refine go_mmin dX6_readInto_32 mm_X6_41 (by decide) (Nat.le_of_ble_eq_true rfl) ?_
  refine go_top (x := (jmin 300 300)) rfl ?_
  refine go_mmin dX6_readInto_35 mm_X6_41 (by decide) (Nat.le_of_ble_eq_true rfl) ?_
  refine go_top (x := (jmin a1 (jmin 300 300))) rfl ?_
  obtain ⟨q4, hq4, h⟩ := go_bind h
  refine pp_callV (as := [.int (jmin a1 (jmin 300 300))]) (st := []) (rv := none) (μ1 := q4) (st1 := []) dX6_readInto_38 ll_X6_47 sh_372 (by decide) rfl (ctX6_splitTape  hq4) rfl (Nat.le_of_ble_eq_true rfl) (Nat.le_of_ble_eq_true rfl) (go_Z_up w _) rfl rfl ?_
  refine go_aload_n dX6_readInto_41 0 rfl ?_
  refine go_iconst (v := 0) dX6_readInto_42 (by decide) ?_
  obtain ⟨μ5, hμ5, h⟩ := go_let_e h
  refine pp_putI dX6_readInto_43 ff_X6_51 (Or.inl rfl) sh_372 hμ5 ?_
  refine go_aload_n dX6_readInto_46 0 rfl ?_
  refine go_aload_n dX6_readInto_47 0 rfl ?_
  refine pp_getR dX6_readInto_48 ff_X6_9 (Or.inr ⟨_, rfl⟩) sh_372 rf_372_1 ?_
  refine go_iconst (v := 0) dX6_readInto_51 (by decide) ?_
  refine pp_ildc (q := 0) dX6_readInto_52 sh_373 (by decide) ?_
  obtain ⟨μ6, hμ6, h⟩ := go_let_e h
  refine pp_putI dX6_readInto_53 ff_X6_54 (Or.inl rfl) sh_372 hμ6 ?_
  refine go_iconst (v := 0) dX6_readInto_56 (by decide) ?_
  refine go_istore_n dX6_readInto_57 (by decide) rfl ?_
  show Go w 542 0 0 mtX6_readInto 58 [(3, .int 0), (0, .ref 372), (1, .ref tx), (2, .int a1)] [] (go_mk tx μ6) (go_Z w Q)
  obtain ⟨ρ8, hρ8, h⟩ := go_bind h
  refine go_pick [1, 0] rfl ?_
  refine go_lp (G := ggX6_readInto_58 w tx Q a1 ) (E := eeX6_readInto_58 w tx Q a1 ) (fun s out h hK => lqX6_readInto_58 w tx Q a1 htx   s.1 s.2 out h hK) go_fuel (0, μ6) ρ8 hρ8 ?_
  cases h
  exact hK
theorem ctX6_readInto {w : go_Wd} {tx0 tx : Nat} {μ : PM} {a1 : Int32} {μ1 : PM} (htx : go_isT tx) (h : fX6_readInto tx μ a1 = some μ1) : Ct w 542 0 0 mtX6_readInto [.ref 372, .ref tx, .int a1] (go_mk tx0 μ) (fun r' M' => r' = none ∧ M' = go_mk tx μ1) := by
  refine go_entry rfl (by decide) (Nat.le_of_ble_eq_true rfl) ?_
  show Go w 542 0 0 mtX6_readInto 0 [(0, .ref 372), (1, .ref tx), (2, .int a1)] [] (go_mk tx0 μ) (go_Z w _)
  refine go_aload_n dX6_readInto_0 0 rfl ?_
  refine go_aload_n dX6_readInto_1 1 rfl ?_
  refine pp_putTx dX6_readInto_2 ff_X6_27 (Or.inl ⟨_, rfl⟩) sh_372 ?_
  exact cmX6_readInto w tx _ μ a1 htx _ h ⟨rfl, rfl⟩