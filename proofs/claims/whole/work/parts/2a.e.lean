def fX10_renewX (μ : PM) (o : Nat) : PM :=
  go_let (pm_wi μ o 10 (jrem (((μ.1 o 10) * 563) + 433) 30773)) fun μ1 => μ1
set_option maxRecDepth 20000 in
set_option maxHeartbeats 4000000 in
theorem cmX10_renewX (w : go_Wd) (tx : Nat) (Q : Option Value → go_M → Prop) (μ : PM) (o : Nat) (ho : go_isW o) (out : PM) (h : fX10_renewX μ o = out) (hK : Q none (go_mk tx out)) : Go w 0 0 0 mtX10_renewX 0 [(0, .ref o)] [] (go_mk tx μ) (go_Z w Q) := by
  unfold fX10_renewX at h
  refine go_aload_n dX10_renewX_0 0 rfl ?_
  refine go_aload_n dX10_renewX_1 0 rfl ?_
  refine pp_getI dX10_renewX_2 ff_X10_24 (by decide) ho.1 ?_
  refine go_sipush (v := 563) dX10_renewX_5 (by decide) ?_
  refine go_imul dX10_renewX_8 ?_
  refine go_sipush (v := 433) dX10_renewX_9 (by decide) ?_
  refine go_iadd dX10_renewX_12 ?_
  refine go_sipush (v := 30773) dX10_renewX_13 (by decide) ?_
  refine go_iremJ dX10_renewX_16 (by decide) ?_
  obtain ⟨μ1, hμ1, h⟩ := go_let_e h
  refine pp_putI dX10_renewX_17 ff_X10_24 (Or.inl rfl) ho.1 hμ1 ?_
  subst h
  exact go_vret dX10_renewX_20 rfl hK
theorem ctX10_renewX {w : go_Wd} {tx : Nat} {μ : PM} {o : Nat} {μ1 : PM} (ho : go_isW o) (h : fX10_renewX μ o = μ1) : Ct w 0 0 0 mtX10_renewX [.ref o] (go_mk tx μ) (fun r' M' => r' = none ∧ M' = go_mk tx μ1) :=
  go_entry rfl (by decide) (Nat.le_of_ble_eq_true rfl) (cmX10_renewX w tx _ μ o ho _ h ⟨rfl, rfl⟩)
def fX10_drawTenth (μ : PM) (o : Nat) : Int32 × PM :=
  go_let ((jrem (μ.1 o 10) 10)) fun x1 => go_let (fX10_renewX μ o) fun q2 => (x1, q2)
set_option maxRecDepth 20000 in
set_option maxHeartbeats 4000000 in
theorem cmX10_drawTenth (w : go_Wd) (tx : Nat) (Q : Option Value → go_M → Prop) (μ : PM) (o : Nat) (ho : go_isW o) (out : Int32 × PM) (h : fX10_drawTenth μ o = out) (hK : Q (some (.int out.1)) (go_mk tx out.2)) : Go w 1 0 0 mtX10_drawTenth 0 [(0, .ref o)] [] (go_mk tx μ) (go_Z w Q) := by
  unfold fX10_drawTenth at h
  refine go_aload_n dX10_drawTenth_0 0 rfl ?_
  refine pp_getI dX10_drawTenth_1 ff_X10_24 (by decide) ho.1 ?_
  refine go_bipush (v := 10) dX10_drawTenth_4 (by decide) ?_
  refine go_iremJ dX10_drawTenth_6 (by decide) ?_
  obtain ⟨x1, hx1, h⟩ := go_let_e h
  refine go_top hx1 ?_
  refine go_istore_n dX10_drawTenth_7 (by decide) rfl ?_
  show Go w 1 0 0 mtX10_drawTenth 8 [(1, .int x1), (0, .ref o)] [] (go_mk tx μ) (go_Z w Q)
  refine go_aload_n dX10_drawTenth_8 1 rfl ?_
  obtain ⟨q2, hq2, h⟩ := go_let_e h
  refine pp_callV (as := []) (st := []) (rv := none) (μ1 := q2) (st1 := []) dX10_drawTenth_9 ll_X10_52 ho.1 (by decide) rfl (ctX10_renewX ho hq2.symm) rfl (Nat.le_of_ble_eq_true rfl) (Nat.le_of_ble_eq_true rfl) (go_Z_up w _) rfl rfl ?_
  refine go_iload_n dX10_drawTenth_12 0 rfl ?_
  subst h
  exact go_iret dX10_drawTenth_13 rfl hK
theorem ctX10_drawTenth {w : go_Wd} {tx : Nat} {μ : PM} {o : Nat} {r : Int32} {μ1 : PM} (ho : go_isW o) (h : fX10_drawTenth μ o = (r, μ1)) : Ct w 1 0 0 mtX10_drawTenth [.ref o] (go_mk tx μ) (fun r' M' => r' = some (.int r) ∧ M' = go_mk tx μ1) :=
  go_entry rfl (by decide) (Nat.le_of_ble_eq_true rfl) (cmX10_drawTenth w tx _ μ o ho _ h ⟨rfl, rfl⟩)
def fX8_hasLaw (μ : PM) (o : Nat) (a0 : Int32) : Option (Int32) :=
  (if a0 < 0 then some (0) else (if 3 ≤ a0 then some (0) else go_chk a0 3 <| (if (μ.1 (o + 4) a0.toNatClampNeg) = (-1) then some (0) else some (1))))
set_option maxRecDepth 20000 in
set_option maxHeartbeats 4000000 in
theorem cmX8_hasLaw (w : go_Wd) (tx : Nat) (Q : Option Value → go_M → Prop) (μ : PM) (o : Nat) (a0 : Int32) (ho : go_isT o) (out : Int32) (h : fX8_hasLaw μ o a0 = some out) (hK : Q (some (.int out)) (go_mk tx μ)) : Go w 0 0 0 mtX8_hasLaw 0 [(0, .ref o), (1, .int a0)] [] (go_mk tx μ) (go_Z w Q) := by
  unfold fX8_hasLaw at h
  refine go_iload_n dX8_hasLaw_0 1 rfl ?_
  refine go_if_lt 27 dX8_hasLaw_1 (by decide) (fun hc => ?_) (fun hc => ?_)
  · have h := go_ifp hc h
    refine go_iconst (v := 0) dX8_hasLaw_27 (by decide) ?_
    cases h
    exact go_zret dX8_hasLaw_28 rfl (Or.inl rfl) hK
  · have h := go_ifn hc h
    refine go_iload_n dX8_hasLaw_4 1 rfl ?_
    refine go_aload_n dX8_hasLaw_5 0 rfl ?_
    refine pp_getR dX8_hasLaw_6 ff_X8_21 (Or.inr ⟨_, rfl⟩) ho.1 (go_RF_ne ho.2.2.2.2.2.2.2.2.2.2.2.2.2 ho.2.2.2.2.2.2.2.2.2.2.1) ?_
    refine pp_alen (v := 3) dX8_hasLaw_9 ho.2.2.2.2.1 (by decide) ?_
    refine go_icmp_ge 27 dX8_hasLaw_10 (by decide) (fun hc => ?_) (fun hc => ?_)
    · have h := go_ifp hc h
      refine go_iconst (v := 0) dX8_hasLaw_27 (by decide) ?_
      cases h
      exact go_zret dX8_hasLaw_28 rfl (Or.inl rfl) hK
    · have h := go_ifn hc h
      refine go_aload_n dX8_hasLaw_13 0 rfl ?_
      refine pp_getR dX8_hasLaw_14 ff_X8_21 (Or.inr ⟨_, rfl⟩) ho.1 (go_RF_ne ho.2.2.2.2.2.2.2.2.2.2.2.2.2 ho.2.2.2.2.2.2.2.2.2.2.1) ?_
      refine go_iload_n dX8_hasLaw_17 1 rfl ?_
      obtain ⟨hz1, h⟩ := go_chk_e h
      refine pp_ild dX8_hasLaw_18 ho.2.2.2.2.1 hz1 ?_
      refine go_iconst (v := (-1)) dX8_hasLaw_19 (by decide) ?_
      refine go_icmp_eq 27 dX8_hasLaw_20 (by decide) (fun hc => ?_) (fun hc => ?_)
      · have h := go_ifp hc h
        refine go_iconst (v := 0) dX8_hasLaw_27 (by decide) ?_
        cases h
        exact go_zret dX8_hasLaw_28 rfl (Or.inl rfl) hK
      · have h := go_ifn hc h
        refine go_iconst (v := 1) dX8_hasLaw_23 (by decide) ?_
        refine go_goto 28 dX8_hasLaw_24 (by decide) ?_
        cases h
        exact go_zret dX8_hasLaw_28 rfl (Or.inr rfl) hK
theorem ctX8_hasLaw {w : go_Wd} {tx : Nat} {μ : PM} {o : Nat} {a0 : Int32} {r : Int32} (ho : go_isT o) (h : fX8_hasLaw μ o a0 = some r) : Ct w 0 0 0 mtX8_hasLaw [.ref o, .int a0] (go_mk tx μ) (fun r' M' => r' = some (.int r) ∧ M' = go_mk tx μ) :=
  go_entry rfl (by decide) (Nat.le_of_ble_eq_true rfl) (cmX8_hasLaw w tx _ μ o a0 ho _ h ⟨rfl, rfl⟩)
def fX2_learn (μ : PM) (a0 : Nat) (a1 : Int32) (a2 : Int32) : Option (PM) :=
  (if a1 < 0 then some (μ) else (if a1 < 6 then go_let (pm_wi μ 384 0 (μ.1 a0 9)) fun μ1 => go_let (pm_wi μ1 384 1 (μ1.1 a0 8)) fun μ2 => go_chk a1 6 <| go_let (pm_wi μ2 384 2 (μ2.1 3 a1.toNatClampNeg)) fun μ4 => go_chk a1 6 <| go_let (pm_wi μ4 384 3 (μ4.1 (a0 + 2) a1.toNatClampNeg)) fun μ6 => go_let (pm_wi μ6 384 4 a1) fun μ7 => go_chk a1 6 <| go_let (pm_wi μ7 384 5 (μ7.1 2 a1.toNatClampNeg)) fun μ9 => go_let (pm_wi μ9 384 6 a2) fun μ10 => some (μ10) else some (μ)))
set_option maxRecDepth 20000 in
set_option maxHeartbeats 4000000 in
theorem cmX2_learn (w : go_Wd) (tx : Nat) (Q : Option Value → go_M → Prop) (μ : PM) (a0 : Nat) (a1 : Int32) (a2 : Int32) (hk0 : go_isW a0) (out : PM) (h : fX2_learn μ a0 a1 a2 = some out) (hK : Q none (go_mk tx out)) : Go w 0 0 0 mtX2_learn 0 [(0, .ref 383), (1, .ref a0), (2, .int a1), (3, .int a2)] [] (go_mk tx μ) (go_Z w Q) := by
  unfold fX2_learn at h
  refine go_iload_n dX2_learn_0 2 rfl ?_
  refine go_if_lt 10 dX2_learn_1 (by decide) (fun hc => ?_) (fun hc => ?_)
  · have h := go_ifp hc h
    cases h
    exact go_vret dX2_learn_10 rfl hK
  · have h := go_ifn hc h
    refine go_iload_n dX2_learn_4 2 rfl ?_
    refine go_bipush (v := 6) dX2_learn_5 (by decide) ?_
    refine go_icmp_lt 11 dX2_learn_7 (by decide) (fun hc => ?_) (fun hc => ?_)
    · have h := go_ifp hc h
      refine go_aload_n dX2_learn_11 0 rfl ?_
      refine pp_getR dX2_learn_12 ff_X2_9 (Or.inr ⟨_, rfl⟩) sh_383 rf_383_1 ?_
      refine go_iconst (v := 0) dX2_learn_15 (by decide) ?_
      refine go_aload_n dX2_learn_16 1 rfl ?_
      refine pp_getI dX2_learn_17 ff_X2_54 (by decide) hk0.1 ?_
      obtain ⟨μ1, hμ1, h⟩ := go_let_e h
      refine pp_istc (q := 0) dX2_learn_20 sh_384 (by decide) hμ1 ?_
      refine go_aload_n dX2_learn_21 0 rfl ?_
      refine pp_getR dX2_learn_22 ff_X2_9 (Or.inr ⟨_, rfl⟩) sh_383 rf_383_1 ?_
      refine go_iconst (v := 1) dX2_learn_25 (by decide) ?_
      refine go_aload_n dX2_learn_26 1 rfl ?_
      refine pp_getI dX2_learn_27 ff_X2_28 (by decide) hk0.1 ?_
      obtain ⟨μ2, hμ2, h⟩ := go_let_e h
      refine pp_istc (q := 1) dX2_learn_30 sh_384 (by decide) hμ2 ?_
      refine go_aload_n dX2_learn_31 0 rfl ?_
      refine pp_getR dX2_learn_32 ff_X2_9 (Or.inr ⟨_, rfl⟩) sh_383 rf_383_1 ?_
      refine go_iconst (v := 2) dX2_learn_35 (by decide) ?_
      refine go_aload_n dX2_learn_36 0 rfl ?_
      refine pp_getR dX2_learn_37 ff_X2_18 (Or.inl ⟨_, rfl⟩) sh_383 rf_383_0 ?_
      refine pp_getR dX2_learn_40 ff_X2_34 (Or.inr ⟨_, rfl⟩) go_isV_1.1 rf_1_1 ?_
      refine go_iload_n dX2_learn_43 2 rfl ?_
      obtain ⟨hz3, h⟩ := go_chk_e h
      refine pp_ild dX2_learn_44 sh_3 hz3 ?_
      obtain ⟨μ4, hμ4, h⟩ := go_let_e h
      refine pp_istc (q := 2) dX2_learn_45 sh_384 (by decide) hμ4 ?_
      refine go_aload_n dX2_learn_46 0 rfl ?_
      refine pp_getR dX2_learn_47 ff_X2_9 (Or.inr ⟨_, rfl⟩) sh_383 rf_383_1 ?_
      refine go_iconst (v := 3) dX2_learn_50 (by decide) ?_
      refine go_aload_n dX2_learn_51 1 rfl ?_
      refine pp_getR dX2_learn_52 ff_X2_57 (Or.inr ⟨_, rfl⟩) hk0.1 (go_RF_ne hk0.2.2.2.2.2.2.2.2.2 hk0.2.2.2.2.2.2.1) ?_
      refine go_iload_n dX2_learn_55 2 rfl ?_
      obtain ⟨hz5, h⟩ := go_chk_e h
      refine pp_ild dX2_learn_56 hk0.2.2.1 hz5 ?_
      obtain ⟨μ6, hμ6, h⟩ := go_let_e h
      refine pp_istc (q := 3) dX2_learn_57 sh_384 (by decide) hμ6 ?_
      refine go_aload_n dX2_learn_58 0 rfl ?_
      refine pp_getR dX2_learn_59 ff_X2_9 (Or.inr ⟨_, rfl⟩) sh_383 rf_383_1 ?_
      refine go_iconst (v := 4) dX2_learn_62 (by decide) ?_
      refine go_iload_n dX2_learn_63 2 rfl ?_
      obtain ⟨μ7, hμ7, h⟩ := go_let_e h
      refine pp_istc (q := 4) dX2_learn_64 sh_384 (by decide) hμ7 ?_
      refine go_aload_n dX2_learn_65 0 rfl ?_
      refine pp_getR dX2_learn_66 ff_X2_9 (Or.inr ⟨_, rfl⟩) sh_383 rf_383_1 ?_
      refine go_iconst (v := 5) dX2_learn_69 (by decide) ?_
      refine go_aload_n dX2_learn_70 0 rfl ?_
      refine pp_getR dX2_learn_71 ff_X2_18 (Or.inl ⟨_, rfl⟩) sh_383 rf_383_0 ?_
      refine pp_getR dX2_learn_74 ff_X2_60 (Or.inr ⟨_, rfl⟩) go_isV_1.1 rf_1_0 ?_
      refine go_iload_n dX2_learn_77 2 rfl ?_
      obtain ⟨hz8, h⟩ := go_chk_e h
      refine pp_ild dX2_learn_78 sh_2 hz8 ?_
      obtain ⟨μ9, hμ9, h⟩ := go_let_e h
      refine pp_istc (q := 5) dX2_learn_79 sh_384 (by decide) hμ9 ?_
      refine go_aload_n dX2_learn_80 0 rfl ?_
      refine pp_getR dX2_learn_81 ff_X2_9 (Or.inr ⟨_, rfl⟩) sh_383 rf_383_1 ?_
      refine go_bipush (v := 6) dX2_learn_84 (by decide) ?_
      refine go_iload_n dX2_learn_86 3 rfl ?_
      obtain ⟨μ10, hμ10, h⟩ := go_let_e h
      refine pp_istc (q := 6) dX2_learn_87 sh_384 (by decide) hμ10 ?_
      cases h
      exact go_vret dX2_learn_88 rfl hK
    · have h := go_ifn hc h
      cases h
      exact go_vret dX2_learn_10 rfl hK
theorem ctX2_learn {w : go_Wd} {tx : Nat} {μ : PM} {a0 : Nat} {a1 : Int32} {a2 : Int32} {μ1 : PM} (hk0 : go_isW a0) (h : fX2_learn μ a0 a1 a2 = some μ1) : Ct w 0 0 0 mtX2_learn [.ref 383, .ref a0, .int a1, .int a2] (go_mk tx μ) (fun r' M' => r' = none ∧ M' = go_mk tx μ1) :=
  go_entry rfl (by decide) (Nat.le_of_ble_eq_true rfl) (cmX2_learn w tx _ μ a0 a1 a2 hk0 _ h ⟨rfl, rfl⟩)
def fX10_isFrozen (μ : PM) (o : Nat) (a0 : Int32) : Option (Int32) :=
  (if a0 < 0 then some (0) else (if (μ.1 o 5) ≤ a0 then some (0) else (if 6 ≤ a0 then some (0) else go_chk a0 6 <| (if (μ.1 (o + 1) a0.toNatClampNeg) = (-1) then some (1) else some (0)))))
set_option maxRecDepth 20000 in
set_option maxHeartbeats 4000000 in
theorem cmX10_isFrozen (w : go_Wd) (tx : Nat) (Q : Option Value → go_M → Prop) (μ : PM) (o : Nat) (a0 : Int32) (ho : go_isW o) (out : Int32) (h : fX10_isFrozen μ o a0 = some out) (hK : Q (some (.int out)) (go_mk tx μ)) : Go w 0 0 0 mtX10_isFrozen 0 [(0, .ref o), (1, .int a0)] [] (go_mk tx μ) (go_Z w Q) := by
  unfold fX10_isFrozen at h
  refine go_iload_n dX10_isFrozen_0 1 rfl ?_
  refine go_if_lt 32 dX10_isFrozen_1 (by decide) (fun hc => ?_) (fun hc => ?_)
  · have h := go_ifp hc h
    refine go_iconst (v := 0) dX10_isFrozen_32 (by decide) ?_
    cases h
    exact go_zret dX10_isFrozen_33 rfl (Or.inl rfl) hK
  · have h := go_ifn hc h
    refine go_iload_n dX10_isFrozen_4 1 rfl ?_
    refine go_aload_n dX10_isFrozen_5 0 rfl ?_
    refine pp_getI dX10_isFrozen_6 ff_X10_37 (by decide) ho.1 ?_
    refine go_icmp_ge 32 dX10_isFrozen_9 (by decide) (fun hc => ?_) (fun hc => ?_)
    · have h := go_ifp hc h
      refine go_iconst (v := 0) dX10_isFrozen_32 (by decide) ?_
      cases h
      exact go_zret dX10_isFrozen_33 rfl (Or.inl rfl) hK
    · have h := go_ifn hc h
      refine go_iload_n dX10_isFrozen_12 1 rfl ?_
      refine go_bipush (v := 6) dX10_isFrozen_13 (by decide) ?_
      refine go_icmp_ge 32 dX10_isFrozen_15 (by decide) (fun hc => ?_) (fun hc => ?_)
      · have h := go_ifp hc h
        refine go_iconst (v := 0) dX10_isFrozen_32 (by decide) ?_
        cases h
        exact go_zret dX10_isFrozen_33 rfl (Or.inl rfl) hK
      · have h := go_ifn hc h
        refine go_aload_n dX10_isFrozen_18 0 rfl ?_
        refine pp_getR dX10_isFrozen_19 ff_X10_9 (Or.inr ⟨_, rfl⟩) ho.1 (go_RF_ne ho.2.2.2.2.2.2.2.2.2 ho.2.2.2.2.2.1) ?_
        refine go_iload_n dX10_isFrozen_22 1 rfl ?_
        obtain ⟨hz1, h⟩ := go_chk_e h
        refine pp_ild dX10_isFrozen_23 ho.2.1 hz1 ?_
        refine go_iconst (v := (-1)) dX10_isFrozen_24 (by decide) ?_
        refine go_icmp_ne 32 dX10_isFrozen_25 (by decide) (fun hc => ?_) (fun hc => ?_)
        · have h := go_ifn hc h
          refine go_iconst (v := 0) dX10_isFrozen_32 (by decide) ?_
          cases h
          exact go_zret dX10_isFrozen_33 rfl (Or.inl rfl) hK
        · have h := go_ifp hc h
          refine go_iconst (v := 1) dX10_isFrozen_28 (by decide) ?_
          refine go_goto 33 dX10_isFrozen_29 (by decide) ?_
          cases h
          exact go_zret dX10_isFrozen_33 rfl (Or.inr rfl) hK
theorem ctX10_isFrozen {w : go_Wd} {tx : Nat} {μ : PM} {o : Nat} {a0 : Int32} {r : Int32} (ho : go_isW o) (h : fX10_isFrozen μ o a0 = some r) : Ct w 0 0 0 mtX10_isFrozen [.ref o, .int a0] (go_mk tx μ) (fun r' M' => r' = some (.int r) ∧ M' = go_mk tx μ) :=
  go_entry rfl (by decide) (Nat.le_of_ble_eq_true rfl) (cmX10_isFrozen w tx _ μ o a0 ho _ h ⟨rfl, rfl⟩)
def fX2_work (μ : PM) (a0 : Int32) (a1 : Int32) (a2 : Int32) : Option (Int64) :=
  (if a0 = 26 then some (((a1 ||| a2) : Int32).toInt64) else (if a0 = 27 then some (((a1 &&& a2) : Int32).toInt64) else (if a0 = 28 then (if a1 < a2 then some (0) else some (1)) else (if a0 = 29 then (if a1 < 0 then some (0) else (if a1 < 7 then go_chk a1 7 <| go_nz (go_tn a1) <| some (((jrem ((jabs a2) / (go_tn a1)) 10) : Int32).toInt64) else some (0))) else (if a0 = 30 then (if a1 < a2 then some (0) else some (1)) else (if a0 = 31 then (if a1 < a2 then some (0) else some (1)) else (if a0 = 32 then (if a1 < a2 then some (0) else some (1)) else (if a0 = 33 then (if a1 < a2 then some (0) else some (1)) else (if a0 = 34 then (if a1 < a2 then some (0) else some (1)) else (if a0 = 35 then (if a1 < a2 then some (0) else some (1)) else (if a0 = 36 then (if a1 < a2 then some (0) else some (1)) else (if a0 = 37 then (if a1 < a2 then some (0) else some (1)) else (if a0 = 38 then (if a1 < a2 then some (0) else some (1)) else (if a0 = 39 then (if a1 < a2 then some (0) else some (1)) else (if a0 = 40 then (if a2 ≤ a1 then some (0) else some (1)) else (if a0 = 41 then (if a1 ≤ a2 then some (0) else some (1)) else (if a0 = 42 then (if a1 = a2 then some (1) else some (0)) else (if a0 = 43 then (if a1 = a2 then some (0) else some (1)) else (if a0 = 44 then some ((a1.toInt64 + a2.toInt64)) else (if a0 = 45 then some ((a1.toInt64 - a2.toInt64)) else (if a0 = 46 then some ((a1.toInt64 * a2.toInt64)) else (if a0 = 47 then (if a2 = 0 then some (0) else go_nz a2 <| some (((a1 / a2) : Int32).toInt64)) else (if a0 = 48 then (if a1 < a2 then some (0) else some (1)) else (if a0 = 49 then (if a1 < a2 then some (0) else some (1)) else (if a0 = 50 then (if a1 < a2 then some (0) else some (1)) else (if a0 = 51 then (if a2 < a1 then some (0) else some (1)) else (if a1 < a2 then some (0) else some (1))))))))))))))))))))))))))))
set_option maxRecDepth 20000 in
set_option maxHeartbeats 4000000 in
theorem cmX2_work (w : go_Wd) (tx : Nat) (Q : Option Value → go_M → Prop) (μ : PM) (a0 : Int32) (a1 : Int32) (a2 : Int32) (out : Int64) (h : fX2_work μ a0 a1 a2 = some out) (hK : Q (some (.long out)) (go_mk tx μ)) : Go w 1 0 0 mtX2_work 0 [(0, .int a0), (1, .int a1), (2, .int a2)] [] (go_mk tx μ) (go_Z w Q) := by
  unfold fX2_work at h
  refine go_iload_n dX2_work_0 0 rfl ?_
  by_cases hc1 : a0 = 26
  · have h := go_ifp hc1 h
    refine go_tabIn (off := 186) 187 dX2_work_1 26 hc1 (by decide) (by decide) (by decide) (by decide) ?_
    refine go_iload_n dX2_work_187 1 rfl ?_
    refine go_iload_n dX2_work_188 2 rfl ?_
    refine go_ior dX2_work_189 ?_
    refine go_i2l dX2_work_190 ?_
    cases h
    exact go_lret dX2_work_191 rfl hK
  · have h := go_ifn hc1 h
    by_cases hc2 : a0 = 27
    · have h := go_ifp hc2 h
      refine go_tabIn (off := 181) 182 dX2_work_1 27 hc2 (by decide) (by decide) (by decide) (by decide) ?_
      refine go_iload_n dX2_work_182 1 rfl ?_
      refine go_iload_n dX2_work_183 2 rfl ?_
      refine go_iand dX2_work_184 ?_
      refine go_i2l dX2_work_185 ?_
      cases h
      exact go_lret dX2_work_186 rfl hK
    · have h := go_ifn hc2 h
      by_cases hc3 : a0 = 28
      · have h := go_ifp hc3 h
        refine go_tabIn (off := 246) 247 dX2_work_1 28 hc3 (by decide) (by decide) (by decide) (by decide) ?_
        refine go_iload_n dX2_work_247 1 rfl ?_
        refine go_iload_n dX2_work_248 2 rfl ?_
        refine go_icmp_lt 256 dX2_work_249 (by decide) (fun hc => ?_) (fun hc => ?_)
        · have h := go_ifp hc h
          refine go_lconst (v := 0) dX2_work_256 (by decide) ?_
          cases h
          exact go_lret dX2_work_257 rfl hK
        · have h := go_ifn hc h
          refine go_lconst (v := 1) dX2_work_252 (by decide) ?_
          refine go_goto 257 dX2_work_253 (by decide) ?_
          cases h
          exact go_lret dX2_work_257 rfl hK
      · have h := go_ifn hc3 h
        by_cases hc4 : a0 = 29
        · have h := go_ifp hc4 h
          refine go_tabIn (off := 150) 151 dX2_work_1 29 hc4 (by decide) (by decide) (by decide) (by decide) ?_
          refine go_iload_n dX2_work_151 1 rfl ?_
          refine go_if_lt 163 dX2_work_152 (by decide) (fun hc => ?_) (fun hc => ?_)
          · have h := go_ifp hc h
            refine go_lconst (v := 0) dX2_work_163 (by decide) ?_
            refine go_goto 181 dX2_work_164 (by decide) ?_
            cases h
            exact go_lret dX2_work_181 rfl hK
          · have h := go_ifn hc h
            refine go_iload_n dX2_work_155 1 rfl ?_
            refine go_getT dX2_work_156 fn_X2_81 ?_
            refine go_lenT dX2_work_159 ?_
            refine go_icmp_lt 167 dX2_work_160 (by decide) (fun hc => ?_) (fun hc => ?_)
            · have h := go_ifp hc h
              refine go_iload_n dX2_work_167 2 rfl ?_
              refine go_mabs dX2_work_168 mm_X2_84 (by decide) (Nat.le_of_ble_eq_true rfl) ?_
              refine go_top (x := (jabs a2)) rfl ?_
              refine go_getT dX2_work_171 fn_X2_81 ?_
              refine go_iload_n dX2_work_174 1 rfl ?_
              obtain ⟨hz5, h⟩ := go_chk_e h
              refine go_ldT (x := (go_tn a1)) dX2_work_175 hz5 rfl ?_
              obtain ⟨hz6, h⟩ := go_nz_e h
              refine go_idiv dX2_work_176 hz6 ?_
              refine go_bipush (v := 10) dX2_work_177 (by decide) ?_
              refine go_iremJ dX2_work_179 (by decide) ?_
              refine go_i2l dX2_work_180 ?_
              cases h
              exact go_lret dX2_work_181 rfl hK
            · have h := go_ifn hc h
              refine go_lconst (v := 0) dX2_work_163 (by decide) ?_
              refine go_goto 181 dX2_work_164 (by decide) ?_
              cases h
              exact go_lret dX2_work_181 rfl hK
        · have h := go_ifn hc4 h
          by_cases hc7 : a0 = 30
          · have h := go_ifp hc7 h
            refine go_tabIn (off := 246) 247 dX2_work_1 30 hc7 (by decide) (by decide) (by decide) (by decide) ?_
            refine go_iload_n dX2_work_247 1 rfl ?_
            refine go_iload_n dX2_work_248 2 rfl ?_
            refine go_icmp_lt 256 dX2_work_249 (by decide) (fun hc => ?_) (fun hc => ?_)
            · have h := go_ifp hc h
              refine go_lconst (v := 0) dX2_work_256 (by decide) ?_
              cases h
              exact go_lret dX2_work_257 rfl hK
            · have h := go_ifn hc h
              refine go_lconst (v := 1) dX2_work_252 (by decide) ?_
              refine go_goto 257 dX2_work_253 (by decide) ?_
              cases h
              exact go_lret dX2_work_257 rfl hK
          · have h := go_ifn hc7 h
            by_cases hc8 : a0 = 31
            · have h := go_ifp hc8 h
              refine go_tabIn (off := 246) 247 dX2_work_1 31 hc8 (by decide) (by decide) (by decide) (by decide) ?_
              refine go_iload_n dX2_work_247 1 rfl ?_
              refine go_iload_n dX2_work_248 2 rfl ?_
              refine go_icmp_lt 256 dX2_work_249 (by decide) (fun hc => ?_) (fun hc => ?_)
              · have h := go_ifp hc h
                refine go_lconst (v := 0) dX2_work_256 (by decide) ?_
                cases h
                exact go_lret dX2_work_257 rfl hK
              · have h := go_ifn hc h
                refine go_lconst (v := 1) dX2_work_252 (by decide) ?_
                refine go_goto 257 dX2_work_253 (by decide) ?_
                cases h
                exact go_lret dX2_work_257 rfl hK
            · have h := go_ifn hc8 h
              by_cases hc9 : a0 = 32
              · have h := go_ifp hc9 h
                refine go_tabIn (off := 246) 247 dX2_work_1 32 hc9 (by decide) (by decide) (by decide) (by decide) ?_
                refine go_iload_n dX2_work_247 1 rfl ?_
                refine go_iload_n dX2_work_248 2 rfl ?_
                refine go_icmp_lt 256 dX2_work_249 (by decide) (fun hc => ?_) (fun hc => ?_)
                · have h := go_ifp hc h
                  refine go_lconst (v := 0) dX2_work_256 (by decide) ?_
                  cases h
                  exact go_lret dX2_work_257 rfl hK
                · have h := go_ifn hc h
                  refine go_lconst (v := 1) dX2_work_252 (by decide) ?_
                  refine go_goto 257 dX2_work_253 (by decide) ?_
                  cases h
                  exact go_lret dX2_work_257 rfl hK
              · have h := go_ifn hc9 h
                by_cases hc10 : a0 = 33
                · have h := go_ifp hc10 h
                  refine go_tabIn (off := 246) 247 dX2_work_1 33 hc10 (by decide) (by decide) (by decide) (by decide) ?_
                  refine go_iload_n dX2_work_247 1 rfl ?_
                  refine go_iload_n dX2_work_248 2 rfl ?_
                  refine go_icmp_lt 256 dX2_work_249 (by decide) (fun hc => ?_) (fun hc => ?_)
                  · have h := go_ifp hc h
                    refine go_lconst (v := 0) dX2_work_256 (by decide) ?_
                    cases h
                    exact go_lret dX2_work_257 rfl hK
                  · have h := go_ifn hc h
                    refine go_lconst (v := 1) dX2_work_252 (by decide) ?_
                    refine go_goto 257 dX2_work_253 (by decide) ?_
                    cases h
                    exact go_lret dX2_work_257 rfl hK
                · have h := go_ifn hc10 h
                  by_cases hc11 : a0 = 34
                  · have h := go_ifp hc11 h
                    refine go_tabIn (off := 246) 247 dX2_work_1 34 hc11 (by decide) (by decide) (by decide) (by decide) ?_
                    refine go_iload_n dX2_work_247 1 rfl ?_
                    refine go_iload_n dX2_work_248 2 rfl ?_
                    refine go_icmp_lt 256 dX2_work_249 (by decide) (fun hc => ?_) (fun hc => ?_)
                    · have h := go_ifp hc h
                      refine go_lconst (v := 0) dX2_work_256 (by decide) ?_
                      cases h
                      exact go_lret dX2_work_257 rfl hK
                    · have h := go_ifn hc h
                      refine go_lconst (v := 1) dX2_work_252 (by decide) ?_
                      refine go_goto 257 dX2_work_253 (by decide) ?_
                      cases h
                      exact go_lret dX2_work_257 rfl hK
                  · have h := go_ifn hc11 h
                    by_cases hc12 : a0 = 35
                    · have h := go_ifp hc12 h
                      refine go_tabIn (off := 246) 247 dX2_work_1 35 hc12 (by decide) (by decide) (by decide) (by decide) ?_
                      refine go_iload_n dX2_work_247 1 rfl ?_
                      refine go_iload_n dX2_work_248 2 rfl ?_
                      refine go_icmp_lt 256 dX2_work_249 (by decide) (fun hc => ?_) (fun hc => ?_)
                      · have h := go_ifp hc h
                        refine go_lconst (v := 0) dX2_work_256 (by decide) ?_
                        cases h
                        exact go_lret dX2_work_257 rfl hK
                      · have h := go_ifn hc h
                        refine go_lconst (v := 1) dX2_work_252 (by decide) ?_
                        refine go_goto 257 dX2_work_253 (by decide) ?_
                        cases h
                        exact go_lret dX2_work_257 rfl hK
                    · have h := go_ifn hc12 h
                      by_cases hc13 : a0 = 36
                      · have h := go_ifp hc13 h
                        refine go_tabIn (off := 246) 247 dX2_work_1 36 hc13 (by decide) (by decide) (by decide) (by decide) ?_
                        refine go_iload_n dX2_work_247 1 rfl ?_
                        refine go_iload_n dX2_work_248 2 rfl ?_
                        refine go_icmp_lt 256 dX2_work_249 (by decide) (fun hc => ?_) (fun hc => ?_)
                        · have h := go_ifp hc h
                          refine go_lconst (v := 0) dX2_work_256 (by decide) ?_
                          cases h
                          exact go_lret dX2_work_257 rfl hK
                        · have h := go_ifn hc h
                          refine go_lconst (v := 1) dX2_work_252 (by decide) ?_
                          refine go_goto 257 dX2_work_253 (by decide) ?_
                          cases h
                          exact go_lret dX2_work_257 rfl hK
                      · have h := go_ifn hc13 h
                        by_cases hc14 : a0 = 37
                        · have h := go_ifp hc14 h
                          refine go_tabIn (off := 246) 247 dX2_work_1 37 hc14 (by decide) (by decide) (by decide) (by decide) ?_
                          refine go_iload_n dX2_work_247 1 rfl ?_
                          refine go_iload_n dX2_work_248 2 rfl ?_
                          refine go_icmp_lt 256 dX2_work_249 (by decide) (fun hc => ?_) (fun hc => ?_)
                          · have h := go_ifp hc h
                            refine go_lconst (v := 0) dX2_work_256 (by decide) ?_
                            cases h
                            exact go_lret dX2_work_257 rfl hK
                          · have h := go_ifn hc h
                            refine go_lconst (v := 1) dX2_work_252 (by decide) ?_
                            refine go_goto 257 dX2_work_253 (by decide) ?_
                            cases h
                            exact go_lret dX2_work_257 rfl hK
                        · have h := go_ifn hc14 h
                          by_cases hc15 : a0 = 38
                          · have h := go_ifp hc15 h
                            refine go_tabIn (off := 246) 247 dX2_work_1 38 hc15 (by decide) (by decide) (by decide) (by decide) ?_
                            refine go_iload_n dX2_work_247 1 rfl ?_
                            refine go_iload_n dX2_work_248 2 rfl ?_
                            refine go_icmp_lt 256 dX2_work_249 (by decide) (fun hc => ?_) (fun hc => ?_)
                            · have h := go_ifp hc h
                              refine go_lconst (v := 0) dX2_work_256 (by decide) ?_
                              cases h
                              exact go_lret dX2_work_257 rfl hK
                            · have h := go_ifn hc h
                              refine go_lconst (v := 1) dX2_work_252 (by decide) ?_
                              refine go_goto 257 dX2_work_253 (by decide) ?_
                              cases h
                              exact go_lret dX2_work_257 rfl hK
                          · have h := go_ifn hc15 h
                            by_cases hc16 : a0 = 39
                            · have h := go_ifp hc16 h
                              refine go_tabIn (off := 246) 247 dX2_work_1 39 hc16 (by decide) (by decide) (by decide) (by decide) ?_
                              refine go_iload_n dX2_work_247 1 rfl ?_
                              refine go_iload_n dX2_work_248 2 rfl ?_
                              refine go_icmp_lt 256 dX2_work_249 (by decide) (fun hc => ?_) (fun hc => ?_)
                              · have h := go_ifp hc h
                                refine go_lconst (v := 0) dX2_work_256 (by decide) ?_
                                cases h
                                exact go_lret dX2_work_257 rfl hK
                              · have h := go_ifn hc h
                                refine go_lconst (v := 1) dX2_work_252 (by decide) ?_
                                refine go_goto 257 dX2_work_253 (by decide) ?_
                                cases h
                                exact go_lret dX2_work_257 rfl hK
                            · have h := go_ifn hc16 h
                              by_cases hc17 : a0 = 40
                              · have h := go_ifp hc17 h
                                refine go_tabIn (off := 191) 192 dX2_work_1 40 hc17 (by decide) (by decide) (by decide) (by decide) ?_
                                refine go_iload_n dX2_work_192 1 rfl ?_
                                refine go_iload_n dX2_work_193 2 rfl ?_
                                refine go_icmp_ge 201 dX2_work_194 (by decide) (fun hc => ?_) (fun hc => ?_)
                                · have h := go_ifp hc h
                                  refine go_lconst (v := 0) dX2_work_201 (by decide) ?_
                                  cases h
                                  exact go_lret dX2_work_202 rfl hK
                                · have h := go_ifn hc h
                                  refine go_lconst (v := 1) dX2_work_197 (by decide) ?_
                                  refine go_goto 202 dX2_work_198 (by decide) ?_
                                  cases h
                                  exact go_lret dX2_work_202 rfl hK
                              · have h := go_ifn hc17 h
                                by_cases hc18 : a0 = 41
                                · have h := go_ifp hc18 h
                                  refine go_tabIn (off := 202) 203 dX2_work_1 41 hc18 (by decide) (by decide) (by decide) (by decide) ?_
                                  refine go_iload_n dX2_work_203 1 rfl ?_
                                  refine go_iload_n dX2_work_204 2 rfl ?_
                                  refine go_icmp_le 212 dX2_work_205 (by decide) (fun hc => ?_) (fun hc => ?_)
                                  · have h := go_ifp hc h
                                    refine go_lconst (v := 0) dX2_work_212 (by decide) ?_
                                    cases h
                                    exact go_lret dX2_work_213 rfl hK
                                  · have h := go_ifn hc h
                                    refine go_lconst (v := 1) dX2_work_208 (by decide) ?_
                                    refine go_goto 213 dX2_work_209 (by decide) ?_
                                    cases h
                                    exact go_lret dX2_work_213 rfl hK
                                · have h := go_ifn hc18 h
                                  by_cases hc19 : a0 = 42
                                  · have h := go_ifp hc19 h
                                    refine go_tabIn (off := 213) 214 dX2_work_1 42 hc19 (by decide) (by decide) (by decide) (by decide) ?_
                                    refine go_iload_n dX2_work_214 1 rfl ?_
                                    refine go_iload_n dX2_work_215 2 rfl ?_
                                    refine go_icmp_ne 223 dX2_work_216 (by decide) (fun hc => ?_) (fun hc => ?_)
                                    · have h := go_ifn hc h
                                      refine go_lconst (v := 0) dX2_work_223 (by decide) ?_
                                      cases h
                                      exact go_lret dX2_work_224 rfl hK
                                    · have h := go_ifp hc h
                                      refine go_lconst (v := 1) dX2_work_219 (by decide) ?_
                                      refine go_goto 224 dX2_work_220 (by decide) ?_
                                      cases h
                                      exact go_lret dX2_work_224 rfl hK
                                  · have h := go_ifn hc19 h
                                    by_cases hc20 : a0 = 43
                                    · have h := go_ifp hc20 h
                                      refine go_tabIn (off := 224) 225 dX2_work_1 43 hc20 (by decide) (by decide) (by decide) (by decide) ?_
                                      refine go_iload_n dX2_work_225 1 rfl ?_
                                      refine go_iload_n dX2_work_226 2 rfl ?_
                                      refine go_icmp_eq 234 dX2_work_227 (by decide) (fun hc => ?_) (fun hc => ?_)
                                      · have h := go_ifp hc h
                                        refine go_lconst (v := 0) dX2_work_234 (by decide) ?_
                                        cases h
                                        exact go_lret dX2_work_235 rfl hK
                                      · have h := go_ifn hc h
                                        refine go_lconst (v := 1) dX2_work_230 (by decide) ?_
                                        refine go_goto 235 dX2_work_231 (by decide) ?_
                                        cases h
                                        exact go_lret dX2_work_235 rfl hK
                                    · have h := go_ifn hc20 h
                                      by_cases hc21 : a0 = 44
                                      · have h := go_ifp hc21 h
                                        refine go_tabIn (off := 119) 120 dX2_work_1 44 hc21 (by decide) (by decide) (by decide) (by decide) ?_
                                        refine go_iload_n dX2_work_120 1 rfl ?_
                                        refine go_i2l dX2_work_121 ?_
                                        refine go_iload_n dX2_work_122 2 rfl ?_
                                        refine go_i2l dX2_work_123 ?_
                                        refine go_ladd dX2_work_124 ?_
                                        cases h
                                        exact go_lret dX2_work_125 rfl hK
                                      · have h := go_ifn hc21 h
                                        by_cases hc22 : a0 = 45
                                        · have h := go_ifp hc22 h
                                          refine go_tabIn (off := 125) 126 dX2_work_1 45 hc22 (by decide) (by decide) (by decide) (by decide) ?_
                                          refine go_iload_n dX2_work_126 1 rfl ?_
                                          refine go_i2l dX2_work_127 ?_
                                          refine go_iload_n dX2_work_128 2 rfl ?_
                                          refine go_i2l dX2_work_129 ?_
                                          refine go_lsub dX2_work_130 ?_
                                          cases h
                                          exact go_lret dX2_work_131 rfl hK
                                        · have h := go_ifn hc22 h
                                          by_cases hc23 : a0 = 46
                                          · have h := go_ifp hc23 h
                                            refine go_tabIn (off := 131) 132 dX2_work_1 46 hc23 (by decide) (by decide) (by decide) (by decide) ?_
                                            refine go_iload_n dX2_work_132 1 rfl ?_
                                            refine go_i2l dX2_work_133 ?_
                                            refine go_iload_n dX2_work_134 2 rfl ?_
                                            refine go_i2l dX2_work_135 ?_
                                            refine go_lmul dX2_work_136 ?_
                                            cases h
                                            exact go_lret dX2_work_137 rfl hK
                                          · have h := go_ifn hc23 h
                                            by_cases hc24 : a0 = 47
                                            · have h := go_ifp hc24 h
                                              refine go_tabIn (off := 137) 138 dX2_work_1 47 hc24 (by decide) (by decide) (by decide) (by decide) ?_
                                              refine go_iload_n dX2_work_138 2 rfl ?_
                                              refine go_if_ne 146 dX2_work_139 (by decide) (fun hc => ?_) (fun hc => ?_)
                                              · have h := go_ifn hc h
                                                refine go_iload_n dX2_work_146 1 rfl ?_
                                                refine go_iload_n dX2_work_147 2 rfl ?_
                                                obtain ⟨hz25, h⟩ := go_nz_e h
                                                refine go_idiv dX2_work_148 hz25 ?_
                                                refine go_i2l dX2_work_149 ?_
                                                cases h
                                                exact go_lret dX2_work_150 rfl hK
                                              · have h := go_ifp hc h
                                                refine go_lconst (v := 0) dX2_work_142 (by decide) ?_
                                                refine go_goto 150 dX2_work_143 (by decide) ?_
                                                cases h
                                                exact go_lret dX2_work_150 rfl hK
                                            · have h := go_ifn hc24 h
                                              by_cases hc26 : a0 = 48
                                              · have h := go_ifp hc26 h
                                                refine go_tabIn (off := 246) 247 dX2_work_1 48 hc26 (by decide) (by decide) (by decide) (by decide) ?_
                                                refine go_iload_n dX2_work_247 1 rfl ?_
                                                refine go_iload_n dX2_work_248 2 rfl ?_
                                                refine go_icmp_lt 256 dX2_work_249 (by decide) (fun hc => ?_) (fun hc => ?_)
                                                · have h := go_ifp hc h
                                                  refine go_lconst (v := 0) dX2_work_256 (by decide) ?_
                                                  cases h
                                                  exact go_lret dX2_work_257 rfl hK
                                                · have h := go_ifn hc h
                                                  refine go_lconst (v := 1) dX2_work_252 (by decide) ?_
                                                  refine go_goto 257 dX2_work_253 (by decide) ?_
                                                  cases h
                                                  exact go_lret dX2_work_257 rfl hK
                                              · have h := go_ifn hc26 h
                                                by_cases hc27 : a0 = 49
                                                · have h := go_ifp hc27 h
                                                  refine go_tabIn (off := 246) 247 dX2_work_1 49 hc27 (by decide) (by decide) (by decide) (by decide) ?_
                                                  refine go_iload_n dX2_work_247 1 rfl ?_
                                                  refine go_iload_n dX2_work_248 2 rfl ?_
                                                  refine go_icmp_lt 256 dX2_work_249 (by decide) (fun hc => ?_) (fun hc => ?_)
                                                  · have h := go_ifp hc h
                                                    refine go_lconst (v := 0) dX2_work_256 (by decide) ?_
                                                    cases h
                                                    exact go_lret dX2_work_257 rfl hK
                                                  · have h := go_ifn hc h
                                                    refine go_lconst (v := 1) dX2_work_252 (by decide) ?_
                                                    refine go_goto 257 dX2_work_253 (by decide) ?_
                                                    cases h
                                                    exact go_lret dX2_work_257 rfl hK
                                                · have h := go_ifn hc27 h
                                                  by_cases hc28 : a0 = 50
                                                  · have h := go_ifp hc28 h
                                                    refine go_tabIn (off := 246) 247 dX2_work_1 50 hc28 (by decide) (by decide) (by decide) (by decide) ?_
                                                    refine go_iload_n dX2_work_247 1 rfl ?_
                                                    refine go_iload_n dX2_work_248 2 rfl ?_
                                                    refine go_icmp_lt 256 dX2_work_249 (by decide) (fun hc => ?_) (fun hc => ?_)
                                                    · have h := go_ifp hc h
                                                      refine go_lconst (v := 0) dX2_work_256 (by decide) ?_
                                                      cases h
                                                      exact go_lret dX2_work_257 rfl hK
                                                    · have h := go_ifn hc h
                                                      refine go_lconst (v := 1) dX2_work_252 (by decide) ?_
                                                      refine go_goto 257 dX2_work_253 (by decide) ?_
                                                      cases h
                                                      exact go_lret dX2_work_257 rfl hK
                                                  · have h := go_ifn hc28 h
                                                    by_cases hc29 : a0 = 51
                                                    · have h := go_ifp hc29 h
                                                      refine go_tabIn (off := 235) 236 dX2_work_1 51 hc29 (by decide) (by decide) (by decide) (by decide) ?_
                                                      refine go_iload_n dX2_work_236 1 rfl ?_
                                                      refine go_iload_n dX2_work_237 2 rfl ?_
                                                      refine go_icmp_gt 245 dX2_work_238 (by decide) (fun hc => ?_) (fun hc => ?_)
                                                      · have h := go_ifp hc h
                                                        refine go_lconst (v := 0) dX2_work_245 (by decide) ?_
                                                        cases h
                                                        exact go_lret dX2_work_246 rfl hK
                                                      · have h := go_ifn hc h
                                                        refine go_lconst (v := 1) dX2_work_241 (by decide) ?_
                                                        refine go_goto 246 dX2_work_242 (by decide) ?_
                                                        cases h
                                                        exact go_lret dX2_work_246 rfl hK
                                                    · have h := go_ifn hc29 h
                                                      refine go_tabOut 247 dX2_work_1 (by have g0 := go_ne_i (n := 26) hc1 (by decide); have g1 := go_ne_i (n := 27) hc2 (by decide); have g2 := go_ne_i (n := 28) hc3 (by decide); have g3 := go_ne_i (n := 29) hc4 (by decide); have g4 := go_ne_i (n := 30) hc7 (by decide); have g5 := go_ne_i (n := 31) hc8 (by decide); have g6 := go_ne_i (n := 32) hc9 (by decide); have g7 := go_ne_i (n := 33) hc10 (by decide); have g8 := go_ne_i (n := 34) hc11 (by decide); have g9 := go_ne_i (n := 35) hc12 (by decide); have g10 := go_ne_i (n := 36) hc13 (by decide); have g11 := go_ne_i (n := 37) hc14 (by decide); have g12 := go_ne_i (n := 38) hc15 (by decide); have g13 := go_ne_i (n := 39) hc16 (by decide); have g14 := go_ne_i (n := 40) hc17 (by decide); have g15 := go_ne_i (n := 41) hc18 (by decide); have g16 := go_ne_i (n := 42) hc19 (by decide); have g17 := go_ne_i (n := 43) hc20 (by decide); have g18 := go_ne_i (n := 44) hc21 (by decide); have g19 := go_ne_i (n := 45) hc22 (by decide); have g20 := go_ne_i (n := 46) hc23 (by decide); have g21 := go_ne_i (n := 47) hc24 (by decide); have g22 := go_ne_i (n := 48) hc26 (by decide); have g23 := go_ne_i (n := 49) hc27 (by decide); have g24 := go_ne_i (n := 50) hc28 (by decide); have g25 := go_ne_i (n := 51) hc29 (by decide); omega) (by decide) ?_
                                                      refine go_iload_n dX2_work_247 1 rfl ?_
                                                      refine go_iload_n dX2_work_248 2 rfl ?_
                                                      refine go_icmp_lt 256 dX2_work_249 (by decide) (fun hc => ?_) (fun hc => ?_)
                                                      · have h := go_ifp hc h
                                                        refine go_lconst (v := 0) dX2_work_256 (by decide) ?_
                                                        cases h
                                                        exact go_lret dX2_work_257 rfl hK
                                                      · have h := go_ifn hc h
                                                        refine go_lconst (v := 1) dX2_work_252 (by decide) ?_
                                                        refine go_goto 257 dX2_work_253 (by decide) ?_
                                                        cases h
                                                        exact go_lret dX2_work_257 rfl hK
theorem ctX2_work {w : go_Wd} {tx : Nat} {μ : PM} {a0 : Int32} {a1 : Int32} {a2 : Int32} {r : Int64}  (h : fX2_work μ a0 a1 a2 = some r) : Ct w 1 0 0 mtX2_work [.int a0, .int a1, .int a2] (go_mk tx μ) (fun r' M' => r' = some (.long r) ∧ M' = go_mk tx μ) :=
  go_entry rfl (by decide) (Nat.le_of_ble_eq_true rfl) (cmX2_work w tx _ μ a0 a1 a2 _ h ⟨rfl, rfl⟩)
def fX2_within (a0 : Int64) (a1 : Int32) (a2 : Int32) : Int32 :=
  ((jmaxl a1.toInt64 (jminl a2.toInt64 a0)) : Int64).toInt32
set_option maxRecDepth 20000 in
set_option maxHeartbeats 4000000 in
theorem cmX2_within (w : go_Wd) (tx : Nat) (Q : Option Value → go_M → Prop) (μ : PM) (a0 : Int64) (a1 : Int32) (a2 : Int32) (out : Int32) (h : fX2_within a0 a1 a2 = out) (hK : Q (some (.int out)) (go_mk tx μ)) : Go w 1 0 0 mtX2_within 0 [(0, .long a0), (2, .int a1), (3, .int a2)] [] (go_mk tx μ) (go_Z w Q) := by
  unfold fX2_within at h
  refine go_iload_n dX2_within_0 1 rfl ?_
  refine go_i2l dX2_within_1 ?_
  refine go_iload_n dX2_within_2 2 rfl ?_
  refine go_i2l dX2_within_3 ?_
  refine go_lload_n dX2_within_4 0 rfl ?_
  refine go_mminL dX2_within_5 ml_X2_90 (by decide) (Nat.le_of_ble_eq_true rfl) ?_
  refine go_topl (x := (jminl a2.toInt64 a0)) rfl ?_
  refine go_mmaxL dX2_within_8 ml_X2_94 (by decide) (Nat.le_of_ble_eq_true rfl) ?_
  refine go_topl (x := (jmaxl a1.toInt64 (jminl a2.toInt64 a0))) rfl ?_
  refine go_l2i dX2_within_11 ?_
  subst h
  exact go_iret dX2_within_12 rfl hK
theorem ctX2_within {w : go_Wd} {tx : Nat} {μ : PM} {a0 : Int64} {a1 : Int32} {a2 : Int32} {r : Int32}  (h : fX2_within a0 a1 a2 = r) : Ct w 1 0 0 mtX2_within [.long a0, .int a1, .int a2] (go_mk tx μ) (fun r' M' => r' = some (.int r) ∧ M' = go_mk tx μ) :=
  go_entry rfl (by decide) (Nat.le_of_ble_eq_true rfl) (cmX2_within w tx _ μ a0 a1 a2 _ h ⟨rfl, rfl⟩)
def jjX2_run_288_14 (μ : PM) (a0 : Nat) (a1 : Int32) (a2 : Nat) (v4 : Int32) (v5 : Int32) (v6 : Int32) (s1 : Int32) (s2 : Int32) : Option ((Int32 × Int32 × Int32 × PM) ⊕ ((Int32 × PM) ⊕ (Int32 × PM))) :=
  go_chk s1 96 <| go_let (pm_wi μ 385 s1.toNatClampNeg s2) fun μ14 => some (.inl (v4, v5, (v6 + 1), μ14))
def jjX2_run_188_14 (μ : PM) (a0 : Nat) (a1 : Int32) (a2 : Nat) (v5 : Int32) (v6 : Int32) (s0 : Int32) : Option ((Int32 × Int32 × Int32 × PM) ⊕ ((Int32 × PM) ⊕ (Int32 × PM))) :=
  some (.inl (s0, v5, (v6 + 1), μ))
def jjX2_run_124_14 (μ : PM) (a0 : Nat) (a1 : Int32) (a2 : Nat) (v4 : Int32) (v5 : Int32) (v6 : Int32) (s1 : Int32) (s2 : Int32) : Option ((Int32 × Int32 × Int32 × PM) ⊕ ((Int32 × PM) ⊕ (Int32 × PM))) :=
  go_chk s1 96 <| go_let (pm_wi μ 385 s1.toNatClampNeg s2) fun μ23 => some (.inl (v4, (v5 + 1), (v6 + 1), μ23))
def jjX2_run_123_14 (μ : PM) (a0 : Nat) (a1 : Int32) (a2 : Nat) (v4 : Int32) (v5 : Int32) (v6 : Int32) (s1 : Int32) : Option ((Int32 × Int32 × Int32 × PM) ⊕ ((Int32 × PM) ⊕ (Int32 × PM))) :=
  jjX2_run_124_14 μ a0 a1 a2 v4 v5 v6 s1 0
def lbX2_run_14 (a0 : Nat) (a1 : Int32) (a2 : Nat)  (v4 : Int32) (v5 : Int32) (v6 : Int32) (μ : PM) : Option ((Int32 × Int32 × Int32 × PM) ⊕ ((Int32 × PM) ⊕ (Int32 × PM))) :=
  (if 320 ≤ v6 then some (.inr (.inl (v5, μ))) else (if v4 < 0 then some (.inr (.inl (v5, μ))) else (if 320 ≤ v4 then some (.inr (.inl (v5, μ))) else (if 96 ≤ v5 then some (.inr (.inl (v5, μ))) else go_chk v4 320 <| go_let ((μ.1 (a0 + 5) v4.toNatClampNeg)) fun x4 => go_chk v4 320 <| go_let ((μ.1 (a0 + 6) v4.toNatClampNeg)) fun x6 => (if x4 = 32 then go_chk v5 96 <| go_let (pm_wi μ 385 v5.toNatClampNeg x6) fun μ26 => some (.inl ((v4 + 1), (v5 + 1), (v6 + 1), μ26)) else (if x4 = 10 then (if x6 < 0 then jjX2_run_123_14 μ a0 a1 a2 ((v4 + 1)) v5 v6 v5 else (if 9 ≤ x6 then jjX2_run_123_14 μ a0 a1 a2 ((v4 + 1)) v5 v6 v5 else go_chk x6 9 <| jjX2_run_124_14 μ a0 a1 a2 ((v4 + 1)) v5 v6 v5 ((μ.1 384 x6.toNatClampNeg)))) else (if x4 = 24 then some (.inl (x6, v5, (v6 + 1), μ)) else (if x4 = 53 then some (.inr (.inl (v5, μ))) else (if 1 ≤ v5 then (if x4 = 23 then go_chk (v5 + (-1)) 96 <| (if (μ.1 385 ((v5 + (-1)) : Int32).toNatClampNeg) = 0 then jjX2_run_188_14 μ a0 a1 a2 ((v5 + (-1))) v6 x6 else jjX2_run_188_14 μ a0 a1 a2 ((v5 + (-1))) v6 ((v4 + 1))) else (if x4 = 55 then go_chk (v5 - 1) 96 <| go_chk (v5 - 1) 96 <| go_let (pm_wi μ 385 ((v5 - 1) : Int32).toNatClampNeg (-(μ.1 385 ((v5 - 1) : Int32).toNatClampNeg))) fun μ20 => some (.inl ((v4 + 1), v5, (v6 + 1), μ20)) else (if x4 = 28 then go_chk (v5 - 1) 96 <| go_chk (v5 - 1) 96 <| go_let (pm_wi μ 385 ((v5 - 1) : Int32).toNatClampNeg (1 - (μ.1 385 ((v5 - 1) : Int32).toNatClampNeg))) fun μ17 => some (.inl ((v4 + 1), v5, (v6 + 1), μ17)) else (if x4 = 30 then go_chk (v5 - 1) 96 <| (fX10_isFrozen μ a2 (μ.1 385 ((v5 - 1) : Int32).toNatClampNeg)).bind fun q13 => (if q13 = 0 then jjX2_run_288_14 μ a0 a1 a2 ((v4 + 1)) v5 v6 ((v5 - 1)) 0 else jjX2_run_288_14 μ a0 a1 a2 ((v4 + 1)) v5 v6 ((v5 - 1)) 1) else (if 2 ≤ v5 then go_chk ((v5 + (-1)) - 1) 96 <| go_chk (v5 + (-1)) 96 <| (fX2_work μ x4 (μ.1 385 (((v5 + (-1)) - 1) : Int32).toNatClampNeg) (μ.1 385 ((v5 + (-1)) : Int32).toNatClampNeg)).bind fun q9 => go_chk ((v5 + (-1)) - 1) 96 <| go_let (pm_wi μ 385 (((v5 + (-1)) - 1) : Int32).toNatClampNeg (fX2_within q9 (-1000000) 1000000)) fun μ10 => some (.inl ((v4 + 1), (v5 + (-1)), (v6 + 1), μ10)) else some (.inr (.inl (v5, μ)))))))) else some (.inr (.inl (v5, μ))))))))))))
def jjX2_run_347 (μ : PM) (a0 : Nat) (a1 : Int32) (a2 : Nat) (v5 : Int32)  : Option (Int32 × PM) :=
  (if v5 ≤ 0 then some ((0, μ)) else go_chk (v5 - 1) 96 <| some (((μ.1 385 ((v5 - 1) : Int32).toNatClampNeg), μ)))
def fX2_run (μ : PM) (a0 : Nat) (a1 : Int32) (a2 : Nat) : Option (Int32 × PM) :=
  go_chk a1 3 <| go_let ((μ.1 (a0 + 4) a1.toNatClampNeg)) fun x2 => ((lp (fun s => lbX2_run_14 a0 a1 a2 s.1 s.2.1 s.2.2.1 s.2.2.2) go_fuel (x2, 0, 0, μ)).bind fun ρ28 => go_cs ρ28 (fun e29 => jjX2_run_347 e29.2 a0 a1 a2 e29.1) (fun y => some y))
def ggX2_run_14 (w : go_Wd) (tx : Nat) (Q : Option Value → go_M → Prop) (a0 : Nat) (a1 : Int32) (a2 : Nat)  (s : Int32 × Int32 × Int32 × PM) : Prop := Go w 2 0 0 mtX2_run 14 [(0, .ref 383), (1, .ref a0), (3, .ref a2), (4, .int s.1), (5, .int s.2.1), (6, .int s.2.2.1)] [] (go_mk tx s.2.2.2) (go_Z w Q)
def eeX2_run_14 (w : go_Wd) (tx : Nat) (Q : Option Value → go_M → Prop) (a0 : Nat) (a1 : Int32) (a2 : Nat)  : (Int32 × PM) ⊕ (Int32 × PM) → Prop
  | .inl e => Go w 2 0 0 mtX2_run 347 [(0, .ref 383), (5, .int e.1)] [] (go_mk tx e.2) (go_Z w Q)
  | .inr y => Q (some (.int y.1)) (go_mk tx y.2)
set_option maxRecDepth 20000 in
set_option maxHeartbeats 4000000 in
theorem jqX2_run_288_14 (w : go_Wd) (tx : Nat) (Q : Option Value → go_M → Prop) (μ : PM) (a0 : Nat) (a1 : Int32) (a2 : Nat) (hk0 : go_isT a0) (hk2 : go_isW a2) (v4 : Int32) (v5 : Int32) (v6 : Int32)  (s1 : Int32) (s2 : Int32) (hs2 : s2 = 0 ∨ s2 = 1) (out : (Int32 × Int32 × Int32 × PM) ⊕ ((Int32 × PM) ⊕ (Int32 × PM))) (h : jjX2_run_288_14 μ a0 a1 a2 v4 v5 v6 s1 s2 = some out) (hK : go_out (ggX2_run_14 w tx Q a0 a1 a2 ) (eeX2_run_14 w tx Q a0 a1 a2 ) out) : Go w 2 0 0 mtX2_run 288 [(0, .ref 383), (1, .ref a0), (3, .ref a2), (4, .int v4), (5, .int v5), (6, .int v6)] [.int s2, .int s1, .ref 385] (go_mk tx μ) (go_Z w Q) := by
  unfold jjX2_run_288_14 at h
  obtain ⟨hz15, h⟩ := go_chk_e h
  obtain ⟨μ14, hμ14, h⟩ := go_let_e h
  refine pp_ist dX2_run_288 sh_385 hz15 hμ14 ?_
  refine go_goto 341 dX2_run_289 (by decide) ?_
  refine go_iinc (v := (v6 + 1)) dX2_run_341 5 rfl rfl (by decide) rfl ?_
  show Go w 2 0 0 mtX2_run 344 [(6, .int (v6 + 1)), (0, .ref 383), (1, .ref a0), (3, .ref a2), (4, .int v4), (5, .int v5)] [] (go_mk tx μ14) (go_Z w Q)
  refine go_goto 14 dX2_run_344 (by decide) ?_
  cases h
  have hK : Go w 2 0 0 mtX2_run 14 [(0, .ref 383), (1, .ref a0), (3, .ref a2), (4, .int v4), (5, .int v5), (6, .int (v6 + 1))] [] (go_mk tx μ14) (go_Z w Q) := hK
  exact go_pick [1, 2, 3, 4, 5, 0] rfl hK
set_option maxRecDepth 20000 in
set_option maxHeartbeats 4000000 in
theorem jqX2_run_188_14 (w : go_Wd) (tx : Nat) (Q : Option Value → go_M → Prop) (μ : PM) (a0 : Nat) (a1 : Int32) (a2 : Nat) (hk0 : go_isT a0) (hk2 : go_isW a2) (v5 : Int32) (v6 : Int32)  (s0 : Int32)  (out : (Int32 × Int32 × Int32 × PM) ⊕ ((Int32 × PM) ⊕ (Int32 × PM))) (h : jjX2_run_188_14 μ a0 a1 a2 v5 v6 s0 = some out) (hK : go_out (ggX2_run_14 w tx Q a0 a1 a2 ) (eeX2_run_14 w tx Q a0 a1 a2 ) out) : Go w 2 0 0 mtX2_run 188 [(0, .ref 383), (1, .ref a0), (3, .ref a2), (5, .int v5), (6, .int v6)] [.int s0] (go_mk tx μ) (go_Z w Q) := by
  unfold jjX2_run_188_14 at h
  refine go_istore dX2_run_188 (by decide) rfl ?_
  show Go w 2 0 0 mtX2_run 190 [(4, .int s0), (0, .ref 383), (1, .ref a0), (3, .ref a2), (5, .int v5), (6, .int v6)] [] (go_mk tx μ) (go_Z w Q)
  refine go_goto 341 dX2_run_190 (by decide) ?_
  refine go_iinc (v := (v6 + 1)) dX2_run_341 5 rfl rfl (by decide) rfl ?_
  show Go w 2 0 0 mtX2_run 344 [(6, .int (v6 + 1)), (4, .int s0), (0, .ref 383), (1, .ref a0), (3, .ref a2), (5, .int v5)] [] (go_mk tx μ) (go_Z w Q)
  refine go_goto 14 dX2_run_344 (by decide) ?_
  cases h
  have hK : Go w 2 0 0 mtX2_run 14 [(0, .ref 383), (1, .ref a0), (3, .ref a2), (4, .int s0), (5, .int v5), (6, .int (v6 + 1))] [] (go_mk tx μ) (go_Z w Q) := hK
  exact go_pick [2, 3, 4, 1, 5, 0] rfl hK
set_option maxRecDepth 20000 in
set_option maxHeartbeats 4000000 in
theorem jqX2_run_124_14 (w : go_Wd) (tx : Nat) (Q : Option Value → go_M → Prop) (μ : PM) (a0 : Nat) (a1 : Int32) (a2 : Nat) (hk0 : go_isT a0) (hk2 : go_isW a2) (v4 : Int32) (v5 : Int32) (v6 : Int32)  (s1 : Int32) (s2 : Int32)  (out : (Int32 × Int32 × Int32 × PM) ⊕ ((Int32 × PM) ⊕ (Int32 × PM))) (h : jjX2_run_124_14 μ a0 a1 a2 v4 v5 v6 s1 s2 = some out) (hK : go_out (ggX2_run_14 w tx Q a0 a1 a2 ) (eeX2_run_14 w tx Q a0 a1 a2 ) out) : Go w 2 0 0 mtX2_run 124 [(0, .ref 383), (1, .ref a0), (3, .ref a2), (4, .int v4), (5, .int v5), (6, .int v6)] [.int s2, .int s1, .ref 385] (go_mk tx μ) (go_Z w Q) := by
  unfold jjX2_run_124_14 at h
  obtain ⟨hz24, h⟩ := go_chk_e h
  obtain ⟨μ23, hμ23, h⟩ := go_let_e h
  refine pp_ist dX2_run_124 sh_385 hz24 hμ23 ?_
  refine go_iinc (v := (v5 + 1)) dX2_run_125 4 rfl rfl (by decide) rfl ?_
  show Go w 2 0 0 mtX2_run 128 [(5, .int (v5 + 1)), (0, .ref 383), (1, .ref a0), (3, .ref a2), (4, .int v4), (6, .int v6)] [] (go_mk tx μ23) (go_Z w Q)
  refine go_goto 341 dX2_run_128 (by decide) ?_
  refine go_iinc (v := (v6 + 1)) dX2_run_341 5 rfl rfl (by decide) rfl ?_
  show Go w 2 0 0 mtX2_run 344 [(6, .int (v6 + 1)), (5, .int (v5 + 1)), (0, .ref 383), (1, .ref a0), (3, .ref a2), (4, .int v4)] [] (go_mk tx μ23) (go_Z w Q)
  refine go_goto 14 dX2_run_344 (by decide) ?_
  cases h
  have hK : Go w 2 0 0 mtX2_run 14 [(0, .ref 383), (1, .ref a0), (3, .ref a2), (4, .int v4), (5, .int (v5 + 1)), (6, .int (v6 + 1))] [] (go_mk tx μ23) (go_Z w Q) := hK
  exact go_pick [2, 3, 4, 5, 1, 0] rfl hK
set_option maxRecDepth 20000 in
set_option maxHeartbeats 4000000 in
theorem jqX2_run_123_14 (w : go_Wd) (tx : Nat) (Q : Option Value → go_M → Prop) (μ : PM) (a0 : Nat) (a1 : Int32) (a2 : Nat) (hk0 : go_isT a0) (hk2 : go_isW a2) (v4 : Int32) (v5 : Int32) (v6 : Int32)  (s1 : Int32)  (out : (Int32 × Int32 × Int32 × PM) ⊕ ((Int32 × PM) ⊕ (Int32 × PM))) (h : jjX2_run_123_14 μ a0 a1 a2 v4 v5 v6 s1 = some out) (hK : go_out (ggX2_run_14 w tx Q a0 a1 a2 ) (eeX2_run_14 w tx Q a0 a1 a2 ) out) : Go w 2 0 0 mtX2_run 123 [(0, .ref 383), (1, .ref a0), (3, .ref a2), (4, .int v4), (5, .int v5), (6, .int v6)] [.int s1, .ref 385] (go_mk tx μ) (go_Z w Q) := by
  unfold jjX2_run_123_14 at h
  refine go_iconst (v := 0) dX2_run_123 (by decide) ?_
  refine go_pick [0, 1, 2, 3, 4, 5] rfl ?_
  exact jqX2_run_124_14 w tx Q μ a0 a1 a2 hk0 hk2 v4 v5 v6  s1 0  _ h hK
set_option maxRecDepth 20000 in
set_option maxHeartbeats 4000000 in
theorem lqX2_run_14 (w : go_Wd) (tx : Nat) (Q : Option Value → go_M → Prop) (a0 : Nat) (a1 : Int32) (a2 : Nat) (hk0 : go_isT a0) (hk2 : go_isW a2)   (v4 : Int32) (v5 : Int32) (v6 : Int32) (μ : PM) (out : (Int32 × Int32 × Int32 × PM) ⊕ ((Int32 × PM) ⊕ (Int32 × PM))) (h : lbX2_run_14 a0 a1 a2  v4 v5 v6 μ = some out) (hK : go_out (ggX2_run_14 w tx Q a0 a1 a2 ) (eeX2_run_14 w tx Q a0 a1 a2 ) out) : ggX2_run_14 w tx Q a0 a1 a2  (v4, v5, v6, μ) := by
  unfold lbX2_run_14 at h
  show Go w 2 0 0 mtX2_run 14 [(0, .ref 383), (1, .ref a0), (3, .ref a2), (4, .int v4), (5, .int v5), (6, .int v6)] [] (go_mk tx μ) (go_Z w Q)
  refine go_iload dX2_run_14 5 rfl ?_
  refine go_sipush (v := 320) dX2_run_16 (by decide) ?_
  refine go_icmp_ge 347 dX2_run_19 (by decide) (fun hc => ?_) (fun hc => ?_)
  · have h := go_ifp hc h
    cases h
    have hK : Go w 2 0 0 mtX2_run 347 [(0, .ref 383), (5, .int v5)] [] (go_mk tx μ) (go_Z w Q) := hK
    exact go_pick [0, 4] rfl hK
  · have h := go_ifn hc h
    refine go_iload dX2_run_22 3 rfl ?_
    refine go_if_lt 347 dX2_run_24 (by decide) (fun hc => ?_) (fun hc => ?_)
    · have h := go_ifp hc h
      cases h
      have hK : Go w 2 0 0 mtX2_run 347 [(0, .ref 383), (5, .int v5)] [] (go_mk tx μ) (go_Z w Q) := hK
      exact go_pick [0, 4] rfl hK
    · have h := go_ifn hc h
      refine go_iload dX2_run_27 3 rfl ?_
      refine go_sipush (v := 320) dX2_run_29 (by decide) ?_
      refine go_icmp_ge 347 dX2_run_32 (by decide) (fun hc => ?_) (fun hc => ?_)
      · have h := go_ifp hc h
        cases h
        have hK : Go w 2 0 0 mtX2_run 347 [(0, .ref 383), (5, .int v5)] [] (go_mk tx μ) (go_Z w Q) := hK
        exact go_pick [0, 4] rfl hK
      · have h := go_ifn hc h
        refine go_iload dX2_run_35 4 rfl ?_
        refine go_bipush (v := 96) dX2_run_37 (by decide) ?_
        refine go_icmp_ge 347 dX2_run_39 (by decide) (fun hc => ?_) (fun hc => ?_)
        · have h := go_ifp hc h
          cases h
          have hK : Go w 2 0 0 mtX2_run 347 [(0, .ref 383), (5, .int v5)] [] (go_mk tx μ) (go_Z w Q) := hK
          exact go_pick [0, 4] rfl hK
        · have h := go_ifn hc h
          refine go_aload_n dX2_run_42 1 rfl ?_
          refine pp_getR dX2_run_43 ff_X2_66 (Or.inr ⟨_, rfl⟩) hk0.1 (go_RF_ne hk0.2.2.2.2.2.2.2.2.2.2.2.2.2 hk0.2.2.2.2.2.2.2.2.2.2.2.1) ?_
          refine go_iload dX2_run_46 3 rfl ?_
          obtain ⟨hz3, h⟩ := go_chk_e h
          refine pp_ild dX2_run_48 hk0.2.2.2.2.2.1 hz3 ?_
          obtain ⟨x4, hx4, h⟩ := go_let_e h
          refine go_top hx4 ?_
          refine go_istore dX2_run_49 (by decide) rfl ?_
          show Go w 2 0 0 mtX2_run 51 [(7, .int x4), (0, .ref 383), (1, .ref a0), (3, .ref a2), (4, .int v4), (5, .int v5), (6, .int v6)] [] (go_mk tx μ) (go_Z w Q)
          refine go_aload_n dX2_run_51 2 rfl ?_
          refine pp_getR dX2_run_52 ff_X2_69 (Or.inr ⟨_, rfl⟩) hk0.1 (go_RF_ne hk0.2.2.2.2.2.2.2.2.2.2.2.2.2 hk0.2.2.2.2.2.2.2.2.2.2.2.2.1) ?_
          refine go_iload dX2_run_55 4 rfl ?_
          obtain ⟨hz5, h⟩ := go_chk_e h
          refine pp_ild dX2_run_57 hk0.2.2.2.2.2.2.1 hz5 ?_
          obtain ⟨x6, hx6, h⟩ := go_let_e h
          refine go_top hx6 ?_
          refine go_istore dX2_run_58 (by decide) rfl ?_
          show Go w 2 0 0 mtX2_run 60 [(8, .int x6), (7, .int x4), (0, .ref 383), (1, .ref a0), (3, .ref a2), (4, .int v4), (5, .int v5), (6, .int v6)] [] (go_mk tx μ) (go_Z w Q)
          refine go_iinc (v := (v4 + 1)) dX2_run_60 5 rfl rfl (by decide) rfl ?_
          show Go w 2 0 0 mtX2_run 63 [(4, .int (v4 + 1)), (8, .int x6), (7, .int x4), (0, .ref 383), (1, .ref a0), (3, .ref a2), (5, .int v5), (6, .int v6)] [] (go_mk tx μ) (go_Z w Q)
          refine go_iload dX2_run_63 2 rfl ?_
          refine go_bipush (v := 32) dX2_run_65 (by decide) ?_
          refine go_icmp_ne 85 dX2_run_67 (by decide) (fun hc => ?_) (fun hc => ?_)
          · have h := go_ifn hc h
            refine go_iload dX2_run_85 2 rfl ?_
            refine go_bipush (v := 10) dX2_run_87 (by decide) ?_
            refine go_icmp_ne 131 dX2_run_89 (by decide) (fun hc => ?_) (fun hc => ?_)
            · have h := go_ifn hc h
              refine go_iload dX2_run_131 2 rfl ?_
              refine go_bipush (v := 24) dX2_run_133 (by decide) ?_
              refine go_icmp_ne 145 dX2_run_135 (by decide) (fun hc => ?_) (fun hc => ?_)
              · have h := go_ifn hc h
                refine go_iload dX2_run_145 2 rfl ?_
                refine go_bipush (v := 53) dX2_run_147 (by decide) ?_
                refine go_icmp_eq 347 dX2_run_149 (by decide) (fun hc => ?_) (fun hc => ?_)
                · have h := go_ifp hc h
                  cases h
                  have hK : Go w 2 0 0 mtX2_run 347 [(0, .ref 383), (5, .int v5)] [] (go_mk tx μ) (go_Z w Q) := hK
                  exact go_pick [3, 6] rfl hK
                · have h := go_ifn hc h
                  refine go_iload dX2_run_152 6 rfl ?_
                  refine go_iconst (v := 1) dX2_run_154 (by decide) ?_
                  refine go_icmp_ge 161 dX2_run_155 (by decide) (fun hc => ?_) (fun hc => ?_)
                  · have h := go_ifp hc h
                    refine go_iload dX2_run_161 2 rfl ?_
                    refine go_bipush (v := 23) dX2_run_163 (by decide) ?_
                    refine go_icmp_ne 193 dX2_run_165 (by decide) (fun hc => ?_) (fun hc => ?_)
                    · have h := go_ifn hc h
                      refine go_iload dX2_run_193 2 rfl ?_
                      refine go_bipush (v := 55) dX2_run_195 (by decide) ?_
                      refine go_icmp_ne 222 dX2_run_197 (by decide) (fun hc => ?_) (fun hc => ?_)
                      · have h := go_ifn hc h
                        refine go_iload dX2_run_222 2 rfl ?_
                        refine go_bipush (v := 28) dX2_run_224 (by decide) ?_
                        refine go_icmp_ne 252 dX2_run_226 (by decide) (fun hc => ?_) (fun hc => ?_)
                        · have h := go_ifn hc h
                          refine go_iload dX2_run_252 2 rfl ?_
                          refine go_bipush (v := 30) dX2_run_254 (by decide) ?_
                          refine go_icmp_ne 292 dX2_run_256 (by decide) (fun hc => ?_) (fun hc => ?_)
                          · have h := go_ifn hc h
                            refine go_iload dX2_run_292 6 rfl ?_
                            refine go_iconst (v := 2) dX2_run_294 (by decide) ?_
                            refine go_icmp_ge 301 dX2_run_295 (by decide) (fun hc => ?_) (fun hc => ?_)
                            · have h := go_ifp hc h
                              refine go_iinc (v := (v5 + (-1))) dX2_run_301 6 rfl rfl (by decide) rfl ?_
                              show Go w 2 0 0 mtX2_run 304 [(5, .int (v5 + (-1))), (4, .int (v4 + 1)), (8, .int x6), (7, .int x4), (0, .ref 383), (1, .ref a0), (3, .ref a2), (6, .int v6)] [] (go_mk tx μ) (go_Z w Q)
                              refine go_aload_n dX2_run_304 4 rfl ?_
                              refine pp_getR dX2_run_305 ff_X2_15 (Or.inr ⟨_, rfl⟩) sh_383 rf_383_2 ?_
                              refine go_iload dX2_run_308 0 rfl ?_
                              refine go_iconst (v := 1) dX2_run_310 (by decide) ?_
                              refine go_isub dX2_run_311 ?_
                              refine go_iload dX2_run_312 3 rfl ?_
                              refine go_aload_n dX2_run_314 4 rfl ?_
                              refine pp_getR dX2_run_315 ff_X2_15 (Or.inr ⟨_, rfl⟩) sh_383 rf_383_2 ?_
                              refine go_iload dX2_run_318 0 rfl ?_
                              refine go_iconst (v := 1) dX2_run_320 (by decide) ?_
                              refine go_isub dX2_run_321 ?_
                              obtain ⟨hz7, h⟩ := go_chk_e h
                              refine pp_ild dX2_run_322 sh_385 hz7 ?_
                              refine go_aload_n dX2_run_323 4 rfl ?_
                              refine pp_getR dX2_run_324 ff_X2_15 (Or.inr ⟨_, rfl⟩) sh_383 rf_383_2 ?_
                              refine go_iload dX2_run_327 0 rfl ?_
                              obtain ⟨hz8, h⟩ := go_chk_e h
                              refine pp_ild dX2_run_329 sh_385 hz8 ?_
                              obtain ⟨q9, hq9, h⟩ := go_bind h
                              refine pp_callS (as := [.int x4, .int (μ.1 385 (((v5 + (-1)) - 1) : Int32).toNatClampNeg), .int (μ.1 385 ((v5 + (-1)) : Int32).toNatClampNeg)]) (st := [.int ((v5 + (-1)) - 1), .ref 385]) (rv := (some (.long q9))) (μ1 := μ) (st1 := [.long q9, .int ((v5 + (-1)) - 1), .ref 385]) dX2_run_330 ll_X2_75 (ctX2_work  hq9) rfl (Nat.le_of_ble_eq_true rfl) (Nat.le_of_ble_eq_true rfl) (go_Z_up w _) rfl rfl ?_
                              refine go_ldc dX2_run_333 kk_X2_79 ?_
                              refine go_ldc dX2_run_335 kk_X2_80 ?_
                              refine pp_callS (as := [.long q9, .int (-1000000), .int 1000000]) (st := [.int ((v5 + (-1)) - 1), .ref 385]) (rv := (some (.int (fX2_within q9 (-1000000) 1000000)))) (μ1 := μ) (st1 := [.int (fX2_within q9 (-1000000) 1000000), .int ((v5 + (-1)) - 1), .ref 385]) dX2_run_337 ll_X2_47 (ctX2_within  rfl) rfl (Nat.le_of_ble_eq_true rfl) (Nat.le_of_ble_eq_true rfl) (go_Z_up w _) rfl rfl ?_
                              obtain ⟨hz11, h⟩ := go_chk_e h
                              obtain ⟨μ10, hμ10, h⟩ := go_let_e h
                              refine pp_ist dX2_run_340 sh_385 hz11 hμ10 ?_
                              refine go_iinc (v := (v6 + 1)) dX2_run_341 7 rfl rfl (by decide) rfl ?_
                              show Go w 2 0 0 mtX2_run 344 [(6, .int (v6 + 1)), (5, .int (v5 + (-1))), (4, .int (v4 + 1)), (8, .int x6), (7, .int x4), (0, .ref 383), (1, .ref a0), (3, .ref a2)] [] (go_mk tx μ10) (go_Z w Q)
                              refine go_goto 14 dX2_run_344 (by decide) ?_
                              cases h
                              have hK : Go w 2 0 0 mtX2_run 14 [(0, .ref 383), (1, .ref a0), (3, .ref a2), (4, .int (v4 + 1)), (5, .int (v5 + (-1))), (6, .int (v6 + 1))] [] (go_mk tx μ10) (go_Z w Q) := hK
                              exact go_pick [5, 6, 7, 2, 1, 0] rfl hK
                            · have h := go_ifn hc h
                              refine go_goto 347 dX2_run_298 (by decide) ?_
                              cases h
                              have hK : Go w 2 0 0 mtX2_run 347 [(0, .ref 383), (5, .int v5)] [] (go_mk tx μ) (go_Z w Q) := hK
                              exact go_pick [3, 6] rfl hK
                          · have h := go_ifp hc h
                            refine go_aload_n dX2_run_259 3 rfl ?_
                            refine pp_getR dX2_run_260 ff_X2_15 (Or.inr ⟨_, rfl⟩) sh_383 rf_383_2 ?_
                            refine go_iload dX2_run_263 6 rfl ?_
                            refine go_iconst (v := 1) dX2_run_265 (by decide) ?_
                            refine go_isub dX2_run_266 ?_
                            refine go_aload_n dX2_run_267 5 rfl ?_
                            refine go_aload_n dX2_run_268 3 rfl ?_
                            refine pp_getR dX2_run_269 ff_X2_15 (Or.inr ⟨_, rfl⟩) sh_383 rf_383_2 ?_
                            refine go_iload dX2_run_272 6 rfl ?_
                            refine go_iconst (v := 1) dX2_run_274 (by decide) ?_
                            refine go_isub dX2_run_275 ?_
                            obtain ⟨hz12, h⟩ := go_chk_e h
                            refine pp_ild dX2_run_276 sh_385 hz12 ?_
                            obtain ⟨q13, hq13, h⟩ := go_bind h
                            refine pp_callV (as := [.int (μ.1 385 ((v5 - 1) : Int32).toNatClampNeg)]) (st := [.int (v5 - 1), .ref 385]) (rv := (some (.int q13))) (μ1 := μ) (st1 := [.int q13, .int (v5 - 1), .ref 385]) dX2_run_277 ll_X2_72 hk2.1 (by decide) rfl (ctX10_isFrozen hk2 hq13) rfl (Nat.le_of_ble_eq_true rfl) (Nat.le_of_ble_eq_true rfl) (go_Z_up w _) rfl rfl ?_
                            refine go_if_eq 287 dX2_run_280 (by decide) (fun hc => ?_) (fun hc => ?_)
                            · have h := go_ifp hc h
                              refine go_iconst (v := 0) dX2_run_287 (by decide) ?_
                              refine go_pick [3, 4, 5, 0, 6, 7] rfl ?_
                              exact jqX2_run_288_14 w tx Q μ a0 a1 a2 hk0 hk2 ((v4 + 1)) v5 v6  ((v5 - 1)) 0 (Or.inl rfl) _ h hK
                            · have h := go_ifn hc h
                              refine go_iconst (v := 1) dX2_run_283 (by decide) ?_
                              refine go_goto 288 dX2_run_284 (by decide) ?_
                              refine go_pick [3, 4, 5, 0, 6, 7] rfl ?_
                              exact jqX2_run_288_14 w tx Q μ a0 a1 a2 hk0 hk2 ((v4 + 1)) v5 v6  ((v5 - 1)) 1 (Or.inr rfl) _ h hK
                        · have h := go_ifp hc h
                          refine go_aload_n dX2_run_229 3 rfl ?_
                          refine pp_getR dX2_run_230 ff_X2_15 (Or.inr ⟨_, rfl⟩) sh_383 rf_383_2 ?_
                          refine go_iload dX2_run_233 6 rfl ?_
                          refine go_iconst (v := 1) dX2_run_235 (by decide) ?_
                          refine go_isub dX2_run_236 ?_
                          refine go_iconst (v := 1) dX2_run_237 (by decide) ?_
                          refine go_aload_n dX2_run_238 3 rfl ?_
                          refine pp_getR dX2_run_239 ff_X2_15 (Or.inr ⟨_, rfl⟩) sh_383 rf_383_2 ?_
                          refine go_iload dX2_run_242 6 rfl ?_
                          refine go_iconst (v := 1) dX2_run_244 (by decide) ?_
                          refine go_isub dX2_run_245 ?_
                          obtain ⟨hz16, h⟩ := go_chk_e h
                          refine pp_ild dX2_run_246 sh_385 hz16 ?_
                          refine go_isub dX2_run_247 ?_
                          obtain ⟨hz18, h⟩ := go_chk_e h
                          obtain ⟨μ17, hμ17, h⟩ := go_let_e h
                          refine pp_ist dX2_run_248 sh_385 hz18 hμ17 ?_
                          refine go_goto 341 dX2_run_249 (by decide) ?_
                          refine go_iinc (v := (v6 + 1)) dX2_run_341 7 rfl rfl (by decide) rfl ?_
                          show Go w 2 0 0 mtX2_run 344 [(6, .int (v6 + 1)), (4, .int (v4 + 1)), (8, .int x6), (7, .int x4), (0, .ref 383), (1, .ref a0), (3, .ref a2), (5, .int v5)] [] (go_mk tx μ17) (go_Z w Q)
                          refine go_goto 14 dX2_run_344 (by decide) ?_
                          cases h
                          have hK : Go w 2 0 0 mtX2_run 14 [(0, .ref 383), (1, .ref a0), (3, .ref a2), (4, .int (v4 + 1)), (5, .int v5), (6, .int (v6 + 1))] [] (go_mk tx μ17) (go_Z w Q) := hK
                          exact go_pick [4, 5, 6, 1, 7, 0] rfl hK
                      · have h := go_ifp hc h
                        refine go_aload_n dX2_run_200 3 rfl ?_
                        refine pp_getR dX2_run_201 ff_X2_15 (Or.inr ⟨_, rfl⟩) sh_383 rf_383_2 ?_
                        refine go_iload dX2_run_204 6 rfl ?_
                        refine go_iconst (v := 1) dX2_run_206 (by decide) ?_
                        refine go_isub dX2_run_207 ?_
                        refine go_aload_n dX2_run_208 3 rfl ?_
                        refine pp_getR dX2_run_209 ff_X2_15 (Or.inr ⟨_, rfl⟩) sh_383 rf_383_2 ?_
                        refine go_iload dX2_run_212 6 rfl ?_
                        refine go_iconst (v := 1) dX2_run_214 (by decide) ?_
                        refine go_isub dX2_run_215 ?_
                        obtain ⟨hz19, h⟩ := go_chk_e h
                        refine pp_ild dX2_run_216 sh_385 hz19 ?_
                        refine go_ineg dX2_run_217 ?_
                        obtain ⟨hz21, h⟩ := go_chk_e h
                        obtain ⟨μ20, hμ20, h⟩ := go_let_e h
                        refine pp_ist dX2_run_218 sh_385 hz21 hμ20 ?_
                        refine go_goto 341 dX2_run_219 (by decide) ?_
                        refine go_iinc (v := (v6 + 1)) dX2_run_341 7 rfl rfl (by decide) rfl ?_
                        show Go w 2 0 0 mtX2_run 344 [(6, .int (v6 + 1)), (4, .int (v4 + 1)), (8, .int x6), (7, .int x4), (0, .ref 383), (1, .ref a0), (3, .ref a2), (5, .int v5)] [] (go_mk tx μ20) (go_Z w Q)
                        refine go_goto 14 dX2_run_344 (by decide) ?_
                        cases h
                        have hK : Go w 2 0 0 mtX2_run 14 [(0, .ref 383), (1, .ref a0), (3, .ref a2), (4, .int (v4 + 1)), (5, .int v5), (6, .int (v6 + 1))] [] (go_mk tx μ20) (go_Z w Q) := hK
                        exact go_pick [4, 5, 6, 1, 7, 0] rfl hK
                    · have h := go_ifp hc h
                      refine go_iinc (v := (v5 + (-1))) dX2_run_168 6 rfl rfl (by decide) rfl ?_
                      show Go w 2 0 0 mtX2_run 171 [(5, .int (v5 + (-1))), (4, .int (v4 + 1)), (8, .int x6), (7, .int x4), (0, .ref 383), (1, .ref a0), (3, .ref a2), (6, .int v6)] [] (go_mk tx μ) (go_Z w Q)
                      refine go_aload_n dX2_run_171 4 rfl ?_
                      refine pp_getR dX2_run_172 ff_X2_15 (Or.inr ⟨_, rfl⟩) sh_383 rf_383_2 ?_
                      refine go_iload dX2_run_175 0 rfl ?_
                      obtain ⟨hz22, h⟩ := go_chk_e h
                      refine pp_ild dX2_run_177 sh_385 hz22 ?_
                      refine go_if_ne 186 dX2_run_178 (by decide) (fun hc => ?_) (fun hc => ?_)
                      · have h := go_ifn hc h
                        refine go_iload dX2_run_186 1 rfl ?_
                        refine go_pick [4, 5, 6, 0, 7] rfl ?_
                        exact jqX2_run_188_14 w tx Q μ a0 a1 a2 hk0 hk2 ((v5 + (-1))) v6  ((v4 + 1))  _ h hK
                      · have h := go_ifp hc h
                        refine go_iload dX2_run_181 2 rfl ?_
                        refine go_goto 188 dX2_run_183 (by decide) ?_
                        refine go_pick [4, 5, 6, 0, 7] rfl ?_
                        exact jqX2_run_188_14 w tx Q μ a0 a1 a2 hk0 hk2 ((v5 + (-1))) v6  x6  _ h hK
                  · have h := go_ifn hc h
                    refine go_goto 347 dX2_run_158 (by decide) ?_
                    cases h
                    have hK : Go w 2 0 0 mtX2_run 347 [(0, .ref 383), (5, .int v5)] [] (go_mk tx μ) (go_Z w Q) := hK
                    exact go_pick [3, 6] rfl hK
              · have h := go_ifp hc h
                refine go_iload dX2_run_138 1 rfl ?_
                refine go_istore dX2_run_140 (by decide) rfl ?_
                show Go w 2 0 0 mtX2_run 142 [(4, .int x6), (8, .int x6), (7, .int x4), (0, .ref 383), (1, .ref a0), (3, .ref a2), (5, .int v5), (6, .int v6)] [] (go_mk tx μ) (go_Z w Q)
                refine go_goto 341 dX2_run_142 (by decide) ?_
                refine go_iinc (v := (v6 + 1)) dX2_run_341 7 rfl rfl (by decide) rfl ?_
                show Go w 2 0 0 mtX2_run 344 [(6, .int (v6 + 1)), (4, .int x6), (8, .int x6), (7, .int x4), (0, .ref 383), (1, .ref a0), (3, .ref a2), (5, .int v5)] [] (go_mk tx μ) (go_Z w Q)
                refine go_goto 14 dX2_run_344 (by decide) ?_
                cases h
                have hK : Go w 2 0 0 mtX2_run 14 [(0, .ref 383), (1, .ref a0), (3, .ref a2), (4, .int x6), (5, .int v5), (6, .int (v6 + 1))] [] (go_mk tx μ) (go_Z w Q) := hK
                exact go_pick [4, 5, 6, 1, 7, 0] rfl hK
            · have h := go_ifp hc h
              refine go_aload_n dX2_run_92 3 rfl ?_
              refine pp_getR dX2_run_93 ff_X2_15 (Or.inr ⟨_, rfl⟩) sh_383 rf_383_2 ?_
              refine go_iload dX2_run_96 6 rfl ?_
              refine go_iload dX2_run_98 1 rfl ?_
              refine go_if_lt 123 dX2_run_100 (by decide) (fun hc => ?_) (fun hc => ?_)
              · have h := go_ifp hc h
                refine go_pick [3, 4, 5, 0, 6, 7] rfl ?_
                exact jqX2_run_123_14 w tx Q μ a0 a1 a2 hk0 hk2 ((v4 + 1)) v5 v6  v5  _ h hK
              · have h := go_ifn hc h
                refine go_iload dX2_run_103 1 rfl ?_
                refine go_aload_n dX2_run_105 3 rfl ?_
                refine pp_getR dX2_run_106 ff_X2_9 (Or.inr ⟨_, rfl⟩) sh_383 rf_383_1 ?_
                refine pp_alen (v := 9) dX2_run_109 sh_384 (by decide) ?_
                refine go_icmp_ge 123 dX2_run_110 (by decide) (fun hc => ?_) (fun hc => ?_)
                · have h := go_ifp hc h
                  refine go_pick [3, 4, 5, 0, 6, 7] rfl ?_
                  exact jqX2_run_123_14 w tx Q μ a0 a1 a2 hk0 hk2 ((v4 + 1)) v5 v6  v5  _ h hK
                · have h := go_ifn hc h
                  refine go_aload_n dX2_run_113 3 rfl ?_
                  refine pp_getR dX2_run_114 ff_X2_9 (Or.inr ⟨_, rfl⟩) sh_383 rf_383_1 ?_
                  refine go_iload dX2_run_117 1 rfl ?_
                  obtain ⟨hz25, h⟩ := go_chk_e h
                  refine pp_ild dX2_run_119 sh_384 hz25 ?_
                  refine go_goto 124 dX2_run_120 (by decide) ?_
                  refine go_pick [3, 4, 5, 0, 6, 7] rfl ?_
                  exact jqX2_run_124_14 w tx Q μ a0 a1 a2 hk0 hk2 ((v4 + 1)) v5 v6  v5 ((μ.1 384 x6.toNatClampNeg))  _ h hK
          · have h := go_ifp hc h
            refine go_aload_n dX2_run_70 3 rfl ?_
            refine pp_getR dX2_run_71 ff_X2_15 (Or.inr ⟨_, rfl⟩) sh_383 rf_383_2 ?_
            refine go_iload dX2_run_74 6 rfl ?_
            refine go_iload dX2_run_76 1 rfl ?_
            obtain ⟨hz27, h⟩ := go_chk_e h
            obtain ⟨μ26, hμ26, h⟩ := go_let_e h
            refine pp_ist dX2_run_78 sh_385 hz27 hμ26 ?_
            refine go_iinc (v := (v5 + 1)) dX2_run_79 6 rfl rfl (by decide) rfl ?_
            show Go w 2 0 0 mtX2_run 82 [(5, .int (v5 + 1)), (4, .int (v4 + 1)), (8, .int x6), (7, .int x4), (0, .ref 383), (1, .ref a0), (3, .ref a2), (6, .int v6)] [] (go_mk tx μ26) (go_Z w Q)
            refine go_goto 341 dX2_run_82 (by decide) ?_
            refine go_iinc (v := (v6 + 1)) dX2_run_341 7 rfl rfl (by decide) rfl ?_
            show Go w 2 0 0 mtX2_run 344 [(6, .int (v6 + 1)), (5, .int (v5 + 1)), (4, .int (v4 + 1)), (8, .int x6), (7, .int x4), (0, .ref 383), (1, .ref a0), (3, .ref a2)] [] (go_mk tx μ26) (go_Z w Q)
            refine go_goto 14 dX2_run_344 (by decide) ?_
            cases h
            have hK : Go w 2 0 0 mtX2_run 14 [(0, .ref 383), (1, .ref a0), (3, .ref a2), (4, .int (v4 + 1)), (5, .int (v5 + 1)), (6, .int (v6 + 1))] [] (go_mk tx μ26) (go_Z w Q) := hK
            exact go_pick [5, 6, 7, 2, 1, 0] rfl hK
set_option maxRecDepth 20000 in
set_option maxHeartbeats 4000000 in
theorem jqX2_run_347 (w : go_Wd) (tx : Nat) (Q : Option Value → go_M → Prop) (μ : PM) (a0 : Nat) (a1 : Int32) (a2 : Nat) (hk0 : go_isT a0) (hk2 : go_isW a2) (v5 : Int32)    (out : Int32 × PM) (h : jjX2_run_347 μ a0 a1 a2 v5  = some out) (hK : Q (some (.int out.1)) (go_mk tx out.2)) : Go w 2 0 0 mtX2_run 347 [(0, .ref 383), (5, .int v5)] [] (go_mk tx μ) (go_Z w Q) := by
  unfold jjX2_run_347 at h
  refine go_iload dX2_run_347 1 rfl ?_
  refine go_if_le 364 dX2_run_349 (by decide) (fun hc => ?_) (fun hc => ?_)
  · have h := go_ifp hc h
    refine go_iconst (v := 0) dX2_run_364 (by decide) ?_
    cases h
    exact go_iret dX2_run_365 rfl hK
  · have h := go_ifn hc h
    refine go_aload_n dX2_run_352 0 rfl ?_
    refine pp_getR dX2_run_353 ff_X2_15 (Or.inr ⟨_, rfl⟩) sh_383 rf_383_2 ?_
    refine go_iload dX2_run_356 1 rfl ?_
    refine go_iconst (v := 1) dX2_run_358 (by decide) ?_
    refine go_isub dX2_run_359 ?_
    obtain ⟨hz30, h⟩ := go_chk_e h
    refine pp_ild dX2_run_360 sh_385 hz30 ?_
    refine go_goto 365 dX2_run_361 (by decide) ?_
    cases h
    exact go_iret dX2_run_365 rfl hK
set_option maxRecDepth 20000 in
set_option maxHeartbeats 4000000 in
theorem cmX2_run (w : go_Wd) (tx : Nat) (Q : Option Value → go_M → Prop) (μ : PM) (a0 : Nat) (a1 : Int32) (a2 : Nat) (hk0 : go_isT a0) (hk2 : go_isW a2) (out : Int32 × PM) (h : fX2_run μ a0 a1 a2 = some out) (hK : Q (some (.int out.1)) (go_mk tx out.2)) : Go w 2 0 0 mtX2_run 0 [(0, .ref 383), (1, .ref a0), (2, .int a1), (3, .ref a2)] [] (go_mk tx μ) (go_Z w Q) := by
  unfold fX2_run at h
  refine go_aload_n dX2_run_0 1 rfl ?_
  refine pp_getR dX2_run_1 ff_X2_63 (Or.inr ⟨_, rfl⟩) hk0.1 (go_RF_ne hk0.2.2.2.2.2.2.2.2.2.2.2.2.2 hk0.2.2.2.2.2.2.2.2.2.2.1) ?_
  refine go_iload_n dX2_run_4 2 rfl ?_
  obtain ⟨hz1, h⟩ := go_chk_e h
  refine pp_ild dX2_run_5 hk0.2.2.2.2.1 hz1 ?_
  obtain ⟨x2, hx2, h⟩ := go_let_e h
  refine go_top hx2 ?_
  refine go_istore dX2_run_6 (by decide) rfl ?_
  show Go w 2 0 0 mtX2_run 8 [(4, .int x2), (0, .ref 383), (1, .ref a0), (2, .int a1), (3, .ref a2)] [] (go_mk tx μ) (go_Z w Q)
  refine go_iconst (v := 0) dX2_run_8 (by decide) ?_
  refine go_istore dX2_run_9 (by decide) rfl ?_
  show Go w 2 0 0 mtX2_run 11 [(5, .int 0), (4, .int x2), (0, .ref 383), (1, .ref a0), (2, .int a1), (3, .ref a2)] [] (go_mk tx μ) (go_Z w Q)
  refine go_iconst (v := 0) dX2_run_11 (by decide) ?_
  refine go_istore dX2_run_12 (by decide) rfl ?_
  show Go w 2 0 0 mtX2_run 14 [(6, .int 0), (5, .int 0), (4, .int x2), (0, .ref 383), (1, .ref a0), (2, .int a1), (3, .ref a2)] [] (go_mk tx μ) (go_Z w Q)
  obtain ⟨ρ28, hρ28, h⟩ := go_bind h
  refine go_pick [3, 4, 6, 2, 1, 0] rfl ?_
  refine go_lp (G := ggX2_run_14 w tx Q a0 a1 a2 ) (E := eeX2_run_14 w tx Q a0 a1 a2 ) (fun s out h hK => lqX2_run_14 w tx Q a0 a1 a2 hk0 hk2   s.1 s.2.1 s.2.2.1 s.2.2.2 out h hK) go_fuel (x2, 0, 0, μ) ρ28 hρ28 ?_
  rcases ρ28 with e29 | y
  · have h := go_csl h
    show Go w 2 0 0 mtX2_run 347 [(0, .ref 383), (5, .int e29.1)] [] (go_mk tx e29.2) (go_Z w Q)
    refine go_pick [0, 1] rfl ?_
    exact jqX2_run_347 w tx Q e29.2 a0 a1 a2 hk0 hk2 e29.1    _ h hK
  · have h := go_csr h
    cases h
    exact hK
theorem ctX2_run {w : go_Wd} {tx : Nat} {μ : PM} {a0 : Nat} {a1 : Int32} {a2 : Nat} {r : Int32} {μ1 : PM} (hk0 : go_isT a0) (hk2 : go_isW a2) (h : fX2_run μ a0 a1 a2 = some (r, μ1)) : Ct w 2 0 0 mtX2_run [.ref 383, .ref a0, .int a1, .ref a2] (go_mk tx μ) (fun r' M' => r' = some (.int r) ∧ M' = go_mk tx μ1) :=
  go_entry rfl (by decide) (Nat.le_of_ble_eq_true rfl) (cmX2_run w tx _ μ a0 a1 a2 hk0 hk2 _ h ⟨rfl, rfl⟩)
def jjX2_askMelts_24 (μ : PM) (a0 : Option Nat) (a1 : Nat) (a2 : Int32)   : Option (Int32 × PM) :=
  go_chk a2 6 <| some ((((μ.1 a1 8) - (μ.1 3 a2.toNatClampNeg)), μ))
def fX2_askMelts (μ : PM) (a0 : Option Nat) (a1 : Nat) (a2 : Int32) : Option (Int32 × PM) :=
  (if a2 < 0 then some ((0, μ)) else (if a2 < 6 then go_op a0 (jjX2_askMelts_24 μ none a1 a2) (fun q1 => (fX8_hasLaw μ q1 0).bind fun q3 => (if q3 = 0 then jjX2_askMelts_24 μ (some q1) a1 a2 else (fX2_learn μ a1 a2 0).bind fun q4 => (fX2_run q4 q1 0 a1).bind fun q5 => some (((fX2_within q5.1.toInt64 (-99) 99), q5.2)))) else some ((0, μ))))
set_option maxRecDepth 20000 in
set_option maxHeartbeats 4000000 in
theorem jqX2_askMelts_24 (w : go_Wd) (tx : Nat) (Q : Option Value → go_M → Prop) (μ : PM) (a0 : Option Nat) (a1 : Nat) (a2 : Int32) (hk0 : ∀ q, a0 = some q → go_isT q) (hk1 : go_isW a1)     (out : Int32 × PM) (h : jjX2_askMelts_24 μ a0 a1 a2   = some out) (hK : Q (some (.int out.1)) (go_mk tx out.2)) : Go w 3 0 0 mtX2_askMelts 24 [(0, .ref 383), (2, .ref a1), (3, .int a2)] [] (go_mk tx μ) (go_Z w Q) := by
  unfold jjX2_askMelts_24 at h
  refine go_aload_n dX2_askMelts_24 1 rfl ?_
  refine pp_getI dX2_askMelts_25 ff_X2_28 (by decide) hk1.1 ?_
  refine go_aload_n dX2_askMelts_28 0 rfl ?_
  refine pp_getR dX2_askMelts_29 ff_X2_18 (Or.inl ⟨_, rfl⟩) sh_383 rf_383_0 ?_
  refine pp_getR dX2_askMelts_32 ff_X2_34 (Or.inr ⟨_, rfl⟩) go_isV_1.1 rf_1_1 ?_
  refine go_iload_n dX2_askMelts_35 2 rfl ?_
  obtain ⟨hz2, h⟩ := go_chk_e h
  refine pp_ild dX2_askMelts_36 sh_3 hz2 ?_
  refine go_isub dX2_askMelts_37 ?_
  cases h
  exact go_iret dX2_askMelts_38 rfl hK
set_option maxRecDepth 20000 in
set_option maxHeartbeats 4000000 in
theorem cmX2_askMelts (w : go_Wd) (tx : Nat) (Q : Option Value → go_M → Prop) (μ : PM) (a0 : Option Nat) (a1 : Nat) (a2 : Int32) (hk0 : ∀ q, a0 = some q → go_isT q) (hk1 : go_isW a1) (out : Int32 × PM) (h : fX2_askMelts μ a0 a1 a2 = some out) (hK : Q (some (.int out.1)) (go_mk tx out.2)) : Go w 3 0 0 mtX2_askMelts 0 [(0, .ref 383), (1, go_on a0), (2, .ref a1), (3, .int a2)] [] (go_mk tx μ) (go_Z w Q) := by
  unfold fX2_askMelts at h
  refine go_iload_n dX2_askMelts_0 3 rfl ?_
  refine go_if_lt 10 dX2_askMelts_1 (by decide) (fun hc => ?_) (fun hc => ?_)
  · have h := go_ifp hc h
    refine go_iconst (v := 0) dX2_askMelts_10 (by decide) ?_
    cases h
    exact go_iret dX2_askMelts_11 rfl hK
  · have h := go_ifn hc h
    refine go_iload_n dX2_askMelts_4 3 rfl ?_
    refine go_bipush (v := 6) dX2_askMelts_5 (by decide) ?_
    refine go_icmp_lt 12 dX2_askMelts_7 (by decide) (fun hc => ?_) (fun hc => ?_)
    · have h := go_ifp hc h
      refine go_aloadO dX2_askMelts_12 1 rfl ?_
      rcases a0 with _ | q1
      · have h := go_opn h
        refine go_ifnullN 24 dX2_askMelts_13 (by decide) ?_
        refine go_pick [0, 2, 3] rfl ?_
        exact jqX2_askMelts_24 w tx Q μ none a1 a2 hk0 hk1     _ h hK
      · have h := go_ops h
        have hq1 := hk0 q1 rfl
        refine go_ifnull dX2_askMelts_13 ?_
        refine go_aload_n dX2_askMelts_16 1 rfl ?_
        refine go_iconst (v := 0) dX2_askMelts_17 (by decide) ?_
        obtain ⟨q3, hq3, h⟩ := go_bind h
        refine pp_callV (as := [.int 0]) (st := []) (rv := (some (.int q3))) (μ1 := μ) (st1 := [.int q3]) dX2_askMelts_18 ll_X2_22 (hq1).1 (by decide) rfl (ctX8_hasLaw (hq1) hq3) rfl (Nat.le_of_ble_eq_true rfl) (Nat.le_of_ble_eq_true rfl) (go_Z_up w _) rfl rfl ?_
        refine go_if_ne 39 dX2_askMelts_21 (by decide) (fun hc => ?_) (fun hc => ?_)
        · have h := go_ifn hc h
          refine go_aload_n dX2_askMelts_39 0 rfl ?_
          refine go_aload_n dX2_askMelts_40 2 rfl ?_
          refine go_iload_n dX2_askMelts_41 3 rfl ?_
          refine go_iconst (v := 0) dX2_askMelts_42 (by decide) ?_
          obtain ⟨q4, hq4, h⟩ := go_bind h
          refine pp_callV (as := [.ref a1, .int a2, .int 0]) (st := []) (rv := none) (μ1 := q4) (st1 := []) dX2_askMelts_43 ll_X2_39 sh_383 (by decide) rfl (ctX2_learn hk1 hq4) rfl (Nat.le_of_ble_eq_true rfl) (Nat.le_of_ble_eq_true rfl) (go_Z_up w _) rfl rfl ?_
          refine go_aload_n dX2_askMelts_46 0 rfl ?_
          refine go_aload_n dX2_askMelts_47 1 rfl ?_
          refine go_iconst (v := 0) dX2_askMelts_48 (by decide) ?_
          refine go_aload_n dX2_askMelts_49 2 rfl ?_
          obtain ⟨q5, hq5, h⟩ := go_bind h
          refine pp_callV (as := [.ref q1, .int 0, .ref a1]) (st := []) (rv := (some (.int q5.1))) (μ1 := q5.2) (st1 := [.int q5.1]) dX2_askMelts_50 ll_X2_43 sh_383 (by decide) rfl (ctX2_run (hq1) hk1 hq5) rfl (Nat.le_of_ble_eq_true rfl) (Nat.le_of_ble_eq_true rfl) (go_Z_up w _) rfl rfl ?_
          refine go_i2l dX2_askMelts_53 ?_
          refine go_bipush (v := (-99)) dX2_askMelts_54 (by decide) ?_
          refine go_bipush (v := 99) dX2_askMelts_56 (by decide) ?_
          refine pp_callS (as := [.long q5.1.toInt64, .int (-99), .int 99]) (st := []) (rv := (some (.int (fX2_within q5.1.toInt64 (-99) 99)))) (μ1 := q5.2) (st1 := [.int (fX2_within q5.1.toInt64 (-99) 99)]) dX2_askMelts_58 ll_X2_47 (ctX2_within  rfl) rfl (Nat.le_of_ble_eq_true rfl) (Nat.le_of_ble_eq_true rfl) (go_Z_up w _) rfl rfl ?_
          cases h
          exact go_iret dX2_askMelts_61 rfl hK
        · have h := go_ifp hc h
          refine go_pick [0, 2, 3] rfl ?_
          exact jqX2_askMelts_24 w tx Q μ (some q1) a1 a2 hk0 hk1     _ h hK
    · have h := go_ifn hc h
      refine go_iconst (v := 0) dX2_askMelts_10 (by decide) ?_
      cases h
      exact go_iret dX2_askMelts_11 rfl hK
theorem ctX2_askMelts {w : go_Wd} {tx : Nat} {μ : PM} {a0 : Option Nat} {a1 : Nat} {a2 : Int32} {r : Int32} {μ1 : PM} (hk0 : ∀ q, a0 = some q → go_isT q) (hk1 : go_isW a1) (h : fX2_askMelts μ a0 a1 a2 = some (r, μ1)) : Ct w 3 0 0 mtX2_askMelts [.ref 383, go_on a0, .ref a1, .int a2] (go_mk tx μ) (fun r' M' => r' = some (.int r) ∧ M' = go_mk tx μ1) :=
  go_entry2 rfl (by decide) (by cases a0 <;> exact Nat.le_of_ble_eq_true rfl) (by cases a0 <;> rfl) (cmX2_askMelts w tx _ μ a0 a1 a2 hk0 hk1 _ h ⟨rfl, rfl⟩)
def fX11_hasBit (a0 : Int32) (a1 : Int32) : Int32 :=
  (if ((a0 >>> (a1 &&& 31)) &&& 1) = 0 then 0 else 1)
set_option maxRecDepth 20000 in
set_option maxHeartbeats 4000000 in
theorem cmX11_hasBit (w : go_Wd) (tx : Nat) (Q : Option Value → go_M → Prop) (μ : PM) (a0 : Int32) (a1 : Int32) (out : Int32) (h : fX11_hasBit a0 a1 = out) (hK : Q (some (.int out)) (go_mk tx μ)) : Go w 0 0 0 mtX11_hasBit 0 [(0, .int a0), (1, .int a1)] [] (go_mk tx μ) (go_Z w Q) := by
  unfold fX11_hasBit at h
  refine go_iload_n dX11_hasBit_0 0 rfl ?_
  refine go_iload_n dX11_hasBit_1 1 rfl ?_
  refine go_ishr dX11_hasBit_2 ?_
  refine go_iconst (v := 1) dX11_hasBit_3 (by decide) ?_
  refine go_iand dX11_hasBit_4 ?_
  refine go_if_eq 12 dX11_hasBit_5 (by decide) (fun hc => ?_) (fun hc => ?_)
  · have h := go_ifp hc h
    refine go_iconst (v := 0) dX11_hasBit_12 (by decide) ?_
    subst h
    exact go_zret dX11_hasBit_13 rfl (Or.inl rfl) hK
  · have h := go_ifn hc h
    refine go_iconst (v := 1) dX11_hasBit_8 (by decide) ?_
    refine go_goto 13 dX11_hasBit_9 (by decide) ?_
    subst h
    exact go_zret dX11_hasBit_13 rfl (Or.inr rfl) hK
theorem ctX11_hasBit {w : go_Wd} {tx : Nat} {μ : PM} {a0 : Int32} {a1 : Int32} {r : Int32}  (h : fX11_hasBit a0 a1 = r) : Ct w 0 0 0 mtX11_hasBit [.int a0, .int a1] (go_mk tx μ) (fun r' M' => r' = some (.int r) ∧ M' = go_mk tx μ) :=
  go_entry rfl (by decide) (Nat.le_of_ble_eq_true rfl) (cmX11_hasBit w tx _ μ a0 a1 _ h ⟨rfl, rfl⟩)
theorem bzX11_hasBit {a0 : Int32} {a1 : Int32} {r : Int32} (h : fX11_hasBit a0 a1 = r) : r = 0 ∨ r = 1 := by
  subst h
  show go_bi _
  unfold fX11_hasBit
  repeat' first | exact bi_0 | exact bi_1 | with_reducible apply bi_ite
def fX10_drawSide (μ : PM) (o : Nat) : Int32 × PM :=
  go_let ((jrem (μ.1 o 10) 2)) fun x1 => go_let (fX10_renewX μ o) fun q2 => (x1, q2)
set_option maxRecDepth 20000 in
set_option maxHeartbeats 4000000 in
theorem cmX10_drawSide (w : go_Wd) (tx : Nat) (Q : Option Value → go_M → Prop) (μ : PM) (o : Nat) (ho : go_isW o) (out : Int32 × PM) (h : fX10_drawSide μ o = out) (hK : Q (some (.int out.1)) (go_mk tx out.2)) : Go w 1 0 0 mtX10_drawSide 0 [(0, .ref o)] [] (go_mk tx μ) (go_Z w Q) := by
  unfold fX10_drawSide at h
  refine go_aload_n dX10_drawSide_0 0 rfl ?_
  refine pp_getI dX10_drawSide_1 ff_X10_24 (by decide) ho.1 ?_
  refine go_iconst (v := 2) dX10_drawSide_4 (by decide) ?_
  refine go_iremJ dX10_drawSide_5 (by decide) ?_
  obtain ⟨x1, hx1, h⟩ := go_let_e h
  refine go_top hx1 ?_
  refine go_istore_n dX10_drawSide_6 (by decide) rfl ?_
  show Go w 1 0 0 mtX10_drawSide 7 [(1, .int x1), (0, .ref o)] [] (go_mk tx μ) (go_Z w Q)
  refine go_aload_n dX10_drawSide_7 1 rfl ?_
  obtain ⟨q2, hq2, h⟩ := go_let_e h
  refine pp_callV (as := []) (st := []) (rv := none) (μ1 := q2) (st1 := []) dX10_drawSide_8 ll_X10_52 ho.1 (by decide) rfl (ctX10_renewX ho hq2.symm) rfl (Nat.le_of_ble_eq_true rfl) (Nat.le_of_ble_eq_true rfl) (go_Z_up w _) rfl rfl ?_
  refine go_iload_n dX10_drawSide_11 0 rfl ?_
  subst h
  exact go_iret dX10_drawSide_12 rfl hK
theorem ctX10_drawSide {w : go_Wd} {tx : Nat} {μ : PM} {o : Nat} {r : Int32} {μ1 : PM} (ho : go_isW o) (h : fX10_drawSide μ o = (r, μ1)) : Ct w 1 0 0 mtX10_drawSide [.ref o] (go_mk tx μ) (fun r' M' => r' = some (.int r) ∧ M' = go_mk tx μ1) :=
  go_entry rfl (by decide) (Nat.le_of_ble_eq_true rfl) (cmX10_drawSide w tx _ μ o ho _ h ⟨rfl, rfl⟩)
def jjX10_writeLine_30 (μ : PM) (o : Nat) (a0 : Int32) (a1 : Int32) (a2 : Int32)   : Option (PM) :=
  (if (μ.1 o 4) < 0 then some (μ) else go_chk (μ.1 o 4) 30 <| go_let (pm_wi μ (o + 4) ((μ.1 o 4) : Int32).toNatClampNeg (((((μ.1 o 9) * 1000) + (a0 * 100)) + (a1 * 10)) + a2)) fun μ1 => go_let (pm_wi μ1 o 4 ((μ1.1 o 4) + 1)) fun μ3 => some (μ3))
def fX10_writeLine (μ : PM) (o : Nat) (a0 : Int32) (a1 : Int32) (a2 : Int32) : Option (PM) :=
  (if (μ.1 o 4) < 30 then jjX10_writeLine_30 μ o a0 a1 a2 else go_let (pm_cp μ (o + 4) (o + 4) 1 0 29) fun μ4 => go_let (pm_wi μ4 o 4 29) fun μ5 => jjX10_writeLine_30 μ5 o a0 a1 a2)
set_option maxRecDepth 20000 in
set_option maxHeartbeats 4000000 in
theorem jqX10_writeLine_30 (w : go_Wd) (tx : Nat) (Q : Option Value → go_M → Prop) (μ : PM) (o : Nat) (a0 : Int32) (a1 : Int32) (a2 : Int32) (ho : go_isW o)     (out : PM) (h : jjX10_writeLine_30 μ o a0 a1 a2   = some out) (hK : Q none (go_mk tx out)) : Go w 1 0 0 mtX10_writeLine 30 [(0, .ref o), (1, .int a0), (2, .int a1), (3, .int a2)] [] (go_mk tx μ) (go_Z w Q) := by
  unfold jjX10_writeLine_30 at h
  refine go_aload_n dX10_writeLine_30 0 rfl ?_
  refine pp_getI dX10_writeLine_31 ff_X10_34 (by decide) ho.1 ?_
  refine go_if_lt 76 dX10_writeLine_34 (by decide) (fun hc => ?_) (fun hc => ?_)
  · have h := go_ifp hc h
    cases h
    exact go_vret dX10_writeLine_76 rfl hK
  · have h := go_ifn hc h
    refine go_aload_n dX10_writeLine_37 0 rfl ?_
    refine pp_getR dX10_writeLine_38 ff_X10_21 (Or.inr ⟨_, rfl⟩) ho.1 (go_RF_ne ho.2.2.2.2.2.2.2.2.2 ho.2.2.2.2.2.2.2.2.1) ?_
    refine go_aload_n dX10_writeLine_41 0 rfl ?_
    refine pp_getI dX10_writeLine_42 ff_X10_34 (by decide) ho.1 ?_
    refine go_aload_n dX10_writeLine_45 0 rfl ?_
    refine pp_getI dX10_writeLine_46 ff_X10_49 (by decide) ho.1 ?_
    refine go_sipush (v := 1000) dX10_writeLine_49 (by decide) ?_
    refine go_imul dX10_writeLine_52 ?_
    refine go_iload_n dX10_writeLine_53 1 rfl ?_
    refine go_bipush (v := 100) dX10_writeLine_54 (by decide) ?_
    refine go_imul dX10_writeLine_56 ?_
    refine go_iadd dX10_writeLine_57 ?_
    refine go_iload_n dX10_writeLine_58 2 rfl ?_
    refine go_bipush (v := 10) dX10_writeLine_59 (by decide) ?_
    refine go_imul dX10_writeLine_61 ?_
    refine go_iadd dX10_writeLine_62 ?_
    refine go_iload_n dX10_writeLine_63 3 rfl ?_
    refine go_iadd dX10_writeLine_64 ?_
    obtain ⟨hz2, h⟩ := go_chk_e h
    obtain ⟨μ1, hμ1, h⟩ := go_let_e h
    refine pp_ist dX10_writeLine_65 ho.2.2.2.2.1 hz2 hμ1 ?_
    refine go_aload_n dX10_writeLine_66 0 rfl ?_
    refine go_dup dX10_writeLine_67 rfl ?_
    refine pp_getI dX10_writeLine_68 ff_X10_34 (by decide) ho.1 ?_
    refine go_iconst (v := 1) dX10_writeLine_71 (by decide) ?_
    refine go_iadd dX10_writeLine_72 ?_
    obtain ⟨μ3, hμ3, h⟩ := go_let_e h
    refine pp_putI dX10_writeLine_73 ff_X10_34 (Or.inl rfl) ho.1 hμ3 ?_
    cases h
    exact go_vret dX10_writeLine_76 rfl hK
set_option maxRecDepth 20000 in
set_option maxHeartbeats 4000000 in
theorem cmX10_writeLine (w : go_Wd) (tx : Nat) (Q : Option Value → go_M → Prop) (μ : PM) (o : Nat) (a0 : Int32) (a1 : Int32) (a2 : Int32) (ho : go_isW o) (out : PM) (h : fX10_writeLine μ o a0 a1 a2 = some out) (hK : Q none (go_mk tx out)) : Go w 1 0 0 mtX10_writeLine 0 [(0, .ref o), (1, .int a0), (2, .int a1), (3, .int a2)] [] (go_mk tx μ) (go_Z w Q) := by
  unfold fX10_writeLine at h
  refine go_aload_n dX10_writeLine_0 0 rfl ?_
  refine pp_getI dX10_writeLine_1 ff_X10_34 (by decide) ho.1 ?_
  refine go_bipush (v := 30) dX10_writeLine_4 (by decide) ?_
  refine go_icmp_lt 30 dX10_writeLine_6 (by decide) (fun hc => ?_) (fun hc => ?_)
  · have h := go_ifp hc h
    refine go_pick [0, 1, 2, 3] rfl ?_
    exact jqX10_writeLine_30 w tx Q μ o a0 a1 a2 ho     _ h hK
  · have h := go_ifn hc h
    refine go_aload_n dX10_writeLine_9 0 rfl ?_
    refine pp_getR dX10_writeLine_10 ff_X10_21 (Or.inr ⟨_, rfl⟩) ho.1 (go_RF_ne ho.2.2.2.2.2.2.2.2.2 ho.2.2.2.2.2.2.2.2.1) ?_
    refine go_iconst (v := 1) dX10_writeLine_13 (by decide) ?_
    refine go_aload_n dX10_writeLine_14 0 rfl ?_
    refine pp_getR dX10_writeLine_15 ff_X10_21 (Or.inr ⟨_, rfl⟩) ho.1 (go_RF_ne ho.2.2.2.2.2.2.2.2.2 ho.2.2.2.2.2.2.2.2.1) ?_
    refine go_iconst (v := 0) dX10_writeLine_18 (by decide) ?_
    refine go_bipush (v := 29) dX10_writeLine_19 (by decide) ?_
    obtain ⟨μ4, hμ4, h⟩ := go_let_e h
    refine pp_copy (q0 := 1) (q1 := 0) (q2 := 29) dX10_writeLine_21 ac_X10_28 (by decide) (Nat.le_of_ble_eq_true rfl) ho.2.2.2.2.1 ho.2.2.2.2.1 (by decide) hμ4 ?_
    refine go_aload_n dX10_writeLine_24 0 rfl ?_
    refine go_bipush (v := 29) dX10_writeLine_25 (by decide) ?_
    obtain ⟨μ5, hμ5, h⟩ := go_let_e h
    refine pp_putI dX10_writeLine_27 ff_X10_34 (Or.inl rfl) ho.1 hμ5 ?_
    refine go_pick [0, 1, 2, 3] rfl ?_
    exact jqX10_writeLine_30 w tx Q μ5 o a0 a1 a2 ho     _ h hK
theorem ctX10_writeLine {w : go_Wd} {tx : Nat} {μ : PM} {o : Nat} {a0 : Int32} {a1 : Int32} {a2 : Int32} {μ1 : PM} (ho : go_isW o) (h : fX10_writeLine μ o a0 a1 a2 = some μ1) : Ct w 1 0 0 mtX10_writeLine [.ref o, .int a0, .int a1, .int a2] (go_mk tx μ) (fun r' M' => r' = none ∧ M' = go_mk tx μ1) :=
  go_entry rfl (by decide) (Nat.le_of_ble_eq_true rfl) (cmX10_writeLine w tx _ μ o a0 a1 a2 ho _ h ⟨rfl, rfl⟩)
def fX2_askBreaks (μ : PM) (a0 : Option Nat) (a1 : Nat) (a2 : Int32) (a3 : Int32) : Option (Int32 × PM) :=
  go_op a0 (some ((3, μ))) (fun q1 => (fX8_hasLaw μ q1 1).bind fun q2 => (if q2 = 0 then some ((3, μ)) else (fX2_learn μ a1 a2 a3).bind fun q3 => (fX2_run q3 q1 1 a1).bind fun q4 => some (((fX2_within q4.1.toInt64 0 10), q4.2))))
set_option maxRecDepth 20000 in
set_option maxHeartbeats 4000000 in
theorem cmX2_askBreaks (w : go_Wd) (tx : Nat) (Q : Option Value → go_M → Prop) (μ : PM) (a0 : Option Nat) (a1 : Nat) (a2 : Int32) (a3 : Int32) (hk0 : ∀ q, a0 = some q → go_isT q) (hk1 : go_isW a1) (out : Int32 × PM) (h : fX2_askBreaks μ a0 a1 a2 a3 = some out) (hK : Q (some (.int out.1)) (go_mk tx out.2)) : Go w 3 0 0 mtX2_askBreaks 0 [(0, .ref 383), (1, go_on a0), (2, .ref a1), (3, .int a2), (4, .int a3)] [] (go_mk tx μ) (go_Z w Q) := by
  unfold fX2_askBreaks at h
  refine go_aloadO dX2_askBreaks_0 1 rfl ?_
  rcases a0 with _ | q1
  · have h := go_opn h
    refine go_ifnullN 12 dX2_askBreaks_1 (by decide) ?_
    refine go_iconst (v := 3) dX2_askBreaks_12 (by decide) ?_
    cases h
    exact go_iret dX2_askBreaks_13 rfl hK
  · have h := go_ops h
    have hq1 := hk0 q1 rfl
    refine go_ifnull dX2_askBreaks_1 ?_
    refine go_aload_n dX2_askBreaks_4 1 rfl ?_
    refine go_iconst (v := 1) dX2_askBreaks_5 (by decide) ?_
    obtain ⟨q2, hq2, h⟩ := go_bind h
    refine pp_callV (as := [.int 1]) (st := []) (rv := (some (.int q2))) (μ1 := μ) (st1 := [.int q2]) dX2_askBreaks_6 ll_X2_22 (hq1).1 (by decide) rfl (ctX8_hasLaw (hq1) hq2) rfl (Nat.le_of_ble_eq_true rfl) (Nat.le_of_ble_eq_true rfl) (go_Z_up w _) rfl rfl ?_
    refine go_if_ne 14 dX2_askBreaks_9 (by decide) (fun hc => ?_) (fun hc => ?_)
    · have h := go_ifn hc h
      refine go_aload_n dX2_askBreaks_14 0 rfl ?_
      refine go_aload_n dX2_askBreaks_15 2 rfl ?_
      refine go_iload_n dX2_askBreaks_16 3 rfl ?_
      refine go_iload dX2_askBreaks_17 4 rfl ?_
      obtain ⟨q3, hq3, h⟩ := go_bind h
      refine pp_callV (as := [.ref a1, .int a2, .int a3]) (st := []) (rv := none) (μ1 := q3) (st1 := []) dX2_askBreaks_19 ll_X2_39 sh_383 (by decide) rfl (ctX2_learn hk1 hq3) rfl (Nat.le_of_ble_eq_true rfl) (Nat.le_of_ble_eq_true rfl) (go_Z_up w _) rfl rfl ?_
      refine go_aload_n dX2_askBreaks_22 0 rfl ?_
      refine go_aload_n dX2_askBreaks_23 1 rfl ?_
      refine go_iconst (v := 1) dX2_askBreaks_24 (by decide) ?_
      refine go_aload_n dX2_askBreaks_25 2 rfl ?_
      obtain ⟨q4, hq4, h⟩ := go_bind h
      refine pp_callV (as := [.ref q1, .int 1, .ref a1]) (st := []) (rv := (some (.int q4.1))) (μ1 := q4.2) (st1 := [.int q4.1]) dX2_askBreaks_26 ll_X2_43 sh_383 (by decide) rfl (ctX2_run (hq1) hk1 hq4) rfl (Nat.le_of_ble_eq_true rfl) (Nat.le_of_ble_eq_true rfl) (go_Z_up w _) rfl rfl ?_
      refine go_i2l dX2_askBreaks_29 ?_
      refine go_iconst (v := 0) dX2_askBreaks_30 (by decide) ?_
      refine go_bipush (v := 10) dX2_askBreaks_31 (by decide) ?_
      refine pp_callS (as := [.long q4.1.toInt64, .int 0, .int 10]) (st := []) (rv := (some (.int (fX2_within q4.1.toInt64 0 10)))) (μ1 := q4.2) (st1 := [.int (fX2_within q4.1.toInt64 0 10)]) dX2_askBreaks_33 ll_X2_47 (ctX2_within  rfl) rfl (Nat.le_of_ble_eq_true rfl) (Nat.le_of_ble_eq_true rfl) (go_Z_up w _) rfl rfl ?_
      cases h
      exact go_iret dX2_askBreaks_36 rfl hK
    · have h := go_ifp hc h
      refine go_iconst (v := 3) dX2_askBreaks_12 (by decide) ?_
      cases h
      exact go_iret dX2_askBreaks_13 rfl hK
theorem ctX2_askBreaks {w : go_Wd} {tx : Nat} {μ : PM} {a0 : Option Nat} {a1 : Nat} {a2 : Int32} {a3 : Int32} {r : Int32} {μ1 : PM} (hk0 : ∀ q, a0 = some q → go_isT q) (hk1 : go_isW a1) (h : fX2_askBreaks μ a0 a1 a2 a3 = some (r, μ1)) : Ct w 3 0 0 mtX2_askBreaks [.ref 383, go_on a0, .ref a1, .int a2, .int a3] (go_mk tx μ) (fun r' M' => r' = some (.int r) ∧ M' = go_mk tx μ1) :=
  go_entry2 rfl (by decide) (by cases a0 <;> exact Nat.le_of_ble_eq_true rfl) (by cases a0 <;> rfl) (cmX2_askBreaks w tx _ μ a0 a1 a2 a3 hk0 hk1 _ h ⟨rfl, rfl⟩)
def fX2_askClaims (μ : PM) (a0 : Option Nat) (a1 : Nat) (a2 : Int32) (a3 : Int32) (a4 : Int32) : Option (Int32 × PM) :=
  go_op a0 (some ((1, μ))) (fun q1 => (fX8_hasLaw μ q1 2).bind fun q2 => (if q2 = 0 then some ((1, μ)) else (if a4 < 0 then some ((1, μ)) else (if a4 < 5 then (fX2_learn μ a1 a2 a3).bind fun q3 => go_chk a4 5 <| go_let (pm_wi q3 384 7 (q3.1 4 a4.toNatClampNeg)) fun μ5 => go_let (pm_wi μ5 384 8 a4) fun μ6 => (fX2_run μ6 q1 2 a1).bind fun q7 => some (((fX2_within q7.1.toInt64 (-99) 99), q7.2)) else some ((1, μ))))))
set_option maxRecDepth 20000 in
set_option maxHeartbeats 4000000 in
theorem cmX2_askClaims (w : go_Wd) (tx : Nat) (Q : Option Value → go_M → Prop) (μ : PM) (a0 : Option Nat) (a1 : Nat) (a2 : Int32) (a3 : Int32) (a4 : Int32) (hk0 : ∀ q, a0 = some q → go_isT q) (hk1 : go_isW a1) (out : Int32 × PM) (h : fX2_askClaims μ a0 a1 a2 a3 a4 = some out) (hK : Q (some (.int out.1)) (go_mk tx out.2)) : Go w 3 0 0 mtX2_askClaims 0 [(0, .ref 383), (1, go_on a0), (2, .ref a1), (3, .int a2), (4, .int a3), (5, .int a4)] [] (go_mk tx μ) (go_Z w Q) := by
  unfold fX2_askClaims at h
  refine go_aloadO dX2_askClaims_0 1 rfl ?_
  rcases a0 with _ | q1
  · have h := go_opn h
    refine go_ifnullN 23 dX2_askClaims_1 (by decide) ?_
    refine go_iconst (v := 1) dX2_askClaims_23 (by decide) ?_
    cases h
    exact go_iret dX2_askClaims_24 rfl hK
  · have h := go_ops h
    have hq1 := hk0 q1 rfl
    refine go_ifnull dX2_askClaims_1 ?_
    refine go_aload_n dX2_askClaims_4 1 rfl ?_
    refine go_iconst (v := 2) dX2_askClaims_5 (by decide) ?_
    obtain ⟨q2, hq2, h⟩ := go_bind h
    refine pp_callV (as := [.int 2]) (st := []) (rv := (some (.int q2))) (μ1 := μ) (st1 := [.int q2]) dX2_askClaims_6 ll_X2_22 (hq1).1 (by decide) rfl (ctX8_hasLaw (hq1) hq2) rfl (Nat.le_of_ble_eq_true rfl) (Nat.le_of_ble_eq_true rfl) (go_Z_up w _) rfl rfl ?_
    refine go_if_eq 23 dX2_askClaims_9 (by decide) (fun hc => ?_) (fun hc => ?_)
    · have h := go_ifp hc h
      refine go_iconst (v := 1) dX2_askClaims_23 (by decide) ?_
      cases h
      exact go_iret dX2_askClaims_24 rfl hK
    · have h := go_ifn hc h
      refine go_iload dX2_askClaims_12 5 rfl ?_
      refine go_if_lt 23 dX2_askClaims_14 (by decide) (fun hc => ?_) (fun hc => ?_)
      · have h := go_ifp hc h
        refine go_iconst (v := 1) dX2_askClaims_23 (by decide) ?_
        cases h
        exact go_iret dX2_askClaims_24 rfl hK
      · have h := go_ifn hc h
        refine go_iload dX2_askClaims_17 5 rfl ?_
        refine go_iconst (v := 5) dX2_askClaims_19 (by decide) ?_
        refine go_icmp_lt 25 dX2_askClaims_20 (by decide) (fun hc => ?_) (fun hc => ?_)
        · have h := go_ifp hc h
          refine go_aload_n dX2_askClaims_25 0 rfl ?_
          refine go_aload_n dX2_askClaims_26 2 rfl ?_
          refine go_iload_n dX2_askClaims_27 3 rfl ?_
          refine go_iload dX2_askClaims_28 4 rfl ?_
          obtain ⟨q3, hq3, h⟩ := go_bind h
          refine pp_callV (as := [.ref a1, .int a2, .int a3]) (st := []) (rv := none) (μ1 := q3) (st1 := []) dX2_askClaims_30 ll_X2_39 sh_383 (by decide) rfl (ctX2_learn hk1 hq3) rfl (Nat.le_of_ble_eq_true rfl) (Nat.le_of_ble_eq_true rfl) (go_Z_up w _) rfl rfl ?_
          refine go_aload_n dX2_askClaims_33 0 rfl ?_
          refine pp_getR dX2_askClaims_34 ff_X2_9 (Or.inr ⟨_, rfl⟩) sh_383 rf_383_1 ?_
          refine go_bipush (v := 7) dX2_askClaims_37 (by decide) ?_
          refine go_aload_n dX2_askClaims_39 0 rfl ?_
          refine pp_getR dX2_askClaims_40 ff_X2_18 (Or.inl ⟨_, rfl⟩) sh_383 rf_383_0 ?_
          refine pp_getR dX2_askClaims_43 ff_X2_51 (Or.inr ⟨_, rfl⟩) go_isV_1.1 rf_1_2 ?_
          refine go_iload dX2_askClaims_46 5 rfl ?_
          obtain ⟨hz4, h⟩ := go_chk_e h
          refine pp_ild dX2_askClaims_48 sh_4 hz4 ?_
          obtain ⟨μ5, hμ5, h⟩ := go_let_e h
          refine pp_istc (q := 7) dX2_askClaims_49 sh_384 (by decide) hμ5 ?_
          refine go_aload_n dX2_askClaims_50 0 rfl ?_
          refine pp_getR dX2_askClaims_51 ff_X2_9 (Or.inr ⟨_, rfl⟩) sh_383 rf_383_1 ?_
          refine go_bipush (v := 8) dX2_askClaims_54 (by decide) ?_
          refine go_iload dX2_askClaims_56 5 rfl ?_
          obtain ⟨μ6, hμ6, h⟩ := go_let_e h
          refine pp_istc (q := 8) dX2_askClaims_58 sh_384 (by decide) hμ6 ?_
          refine go_aload_n dX2_askClaims_59 0 rfl ?_
          refine go_aload_n dX2_askClaims_60 1 rfl ?_
          refine go_iconst (v := 2) dX2_askClaims_61 (by decide) ?_
          refine go_aload_n dX2_askClaims_62 2 rfl ?_
          obtain ⟨q7, hq7, h⟩ := go_bind h
          refine pp_callV (as := [.ref q1, .int 2, .ref a1]) (st := []) (rv := (some (.int q7.1))) (μ1 := q7.2) (st1 := [.int q7.1]) dX2_askClaims_63 ll_X2_43 sh_383 (by decide) rfl (ctX2_run (hq1) hk1 hq7) rfl (Nat.le_of_ble_eq_true rfl) (Nat.le_of_ble_eq_true rfl) (go_Z_up w _) rfl rfl ?_
          refine go_i2l dX2_askClaims_66 ?_
          refine go_bipush (v := (-99)) dX2_askClaims_67 (by decide) ?_
          refine go_bipush (v := 99) dX2_askClaims_69 (by decide) ?_
          refine pp_callS (as := [.long q7.1.toInt64, .int (-99), .int 99]) (st := []) (rv := (some (.int (fX2_within q7.1.toInt64 (-99) 99)))) (μ1 := q7.2) (st1 := [.int (fX2_within q7.1.toInt64 (-99) 99)]) dX2_askClaims_71 ll_X2_47 (ctX2_within  rfl) rfl (Nat.le_of_ble_eq_true rfl) (Nat.le_of_ble_eq_true rfl) (go_Z_up w _) rfl rfl ?_
          cases h
          exact go_iret dX2_askClaims_74 rfl hK
        · have h := go_ifn hc h
          refine go_iconst (v := 1) dX2_askClaims_23 (by decide) ?_
          cases h
          exact go_iret dX2_askClaims_24 rfl hK
theorem ctX2_askClaims {w : go_Wd} {tx : Nat} {μ : PM} {a0 : Option Nat} {a1 : Nat} {a2 : Int32} {a3 : Int32} {a4 : Int32} {r : Int32} {μ1 : PM} (hk0 : ∀ q, a0 = some q → go_isT q) (hk1 : go_isW a1) (h : fX2_askClaims μ a0 a1 a2 a3 a4 = some (r, μ1)) : Ct w 3 0 0 mtX2_askClaims [.ref 383, go_on a0, .ref a1, .int a2, .int a3, .int a4] (go_mk tx μ) (fun r' M' => r' = some (.int r) ∧ M' = go_mk tx μ1) :=
  go_entry2 rfl (by decide) (by cases a0 <;> exact Nat.le_of_ble_eq_true rfl) (by cases a0 <;> rfl) (cmX2_askClaims w tx _ μ a0 a1 a2 a3 a4 hk0 hk1 _ h ⟨rfl, rfl⟩)