def fX11_whole (μ : PM) (a0 : Int32) (a1 : Int32) (a2 : Int32) (a3 : Int32) : Option (Int64 × PM) :=
  (if (fX11_isName μ a0) = 0 then some (((-1), μ)) else (if (fX11_isWay a1 a2) = 0 then some (((-1), μ)) else (fX11_findText μ (μ.1 1 14)).bind fun q1 => (fX5_look μ q1 12 a0 a1 a2).bind fun q2 => (fX5_upperWithout q2 0).bind fun q3 => (fX5_lowerWithout q2 0).bind fun q4 => (fX11_greatestShared q3 q4).bind fun q5 => (if (lg_cmp q5 0) = 0 then some (((-1), q2)) else (if a3 = 0 then go_nzl q5 <| some (((q3 / q5), q2)) else go_nzl q5 <| some (((q4 / q5), q2))))))
set_option maxRecDepth 20000 in
set_option maxHeartbeats 4000000 in
theorem cmX11_whole (w : go_Wd) (tx : Nat) (Q : Option Value → go_M → Prop) (μ : PM) (a0 : Int32) (a1 : Int32) (a2 : Int32) (a3 : Int32) (out : Int64 × PM) (h : fX11_whole μ a0 a1 a2 a3 = some out) (hK : Q (some (.long out.1)) (go_mk tx out.2)) : Go w 5 0 0 mtX11_whole 0 [(0, .ref 0), (1, .int a0), (2, .int a1), (3, .int a2), (4, .int a3)] [] (go_mk tx μ) (go_Z w Q) := by
  unfold fX11_whole at h
  refine go_aload_n dX11_whole_0 0 rfl ?_
  refine go_iload_n dX11_whole_1 1 rfl ?_
  refine pp_callV (as := [.int a0]) (st := []) (rv := (some (.int (fX11_isName μ a0)))) (μ1 := μ) (st1 := [.int (fX11_isName μ a0)]) dX11_whole_2 ll_X11_240 sh_0 (by decide) rfl (ctX11_isName  rfl) rfl (Nat.le_of_ble_eq_true rfl) (Nat.le_of_ble_eq_true rfl) (go_Z_up w _) rfl rfl ?_
  refine go_if_eq 16 dX11_whole_5 (by decide) (fun hc => ?_) (fun hc => ?_)
  · have h := go_ifp hc h
    refine go_ldc2 dX11_whole_16 kl_X11_327 ?_
    cases h
    exact go_lret dX11_whole_19 rfl hK
  · have h := go_ifn hc h
    refine go_iload_n dX11_whole_8 2 rfl ?_
    refine go_iload_n dX11_whole_9 3 rfl ?_
    refine pp_callS (as := [.int a1, .int a2]) (st := []) (rv := (some (.int (fX11_isWay a1 a2)))) (μ1 := μ) (st1 := [.int (fX11_isWay a1 a2)]) dX11_whole_10 ll_X11_324 (ctX11_isWay  rfl) rfl (Nat.le_of_ble_eq_true rfl) (Nat.le_of_ble_eq_true rfl) (go_Z_up w _) rfl rfl ?_
    refine go_if_ne 20 dX11_whole_13 (by decide) (fun hc => ?_) (fun hc => ?_)
    · have h := go_ifn hc h
      refine go_aload_n dX11_whole_20 0 rfl ?_
      refine pp_getR dX11_whole_21 ff_X11_94 (Or.inl ⟨_, rfl⟩) sh_0 rf_0_12 ?_
      refine go_aload_n dX11_whole_24 0 rfl ?_
      refine go_aload_n dX11_whole_25 0 rfl ?_
      refine pp_getR dX11_whole_26 ff_X11_10 (Or.inl ⟨_, rfl⟩) sh_0 rf_0_0 ?_
      refine pp_getI dX11_whole_29 ff_X11_169 (by decide) go_isV_1.1 ?_
      obtain ⟨q1, hq1, h⟩ := go_bind h
      refine pp_callV (as := [.int (μ.1 1 14)]) (st := [.ref 399]) (rv := (some (go_on q1))) (μ1 := μ) (st1 := [go_on q1, .ref 399]) dX11_whole_32 ll_X11_204 sh_0 (by decide) rfl (ctX11_findText  hq1) rfl (Nat.le_of_ble_eq_true rfl) (Nat.le_of_ble_eq_true rfl) (go_Z_up w _) rfl rfl ?_
      refine go_aload_n dX11_whole_35 0 rfl ?_
      refine pp_getR dX11_whole_36 ff_X11_20 (Or.inl ⟨_, rfl⟩) sh_0 rf_0_1 ?_
      refine go_iload_n dX11_whole_39 1 rfl ?_
      refine go_iload_n dX11_whole_40 2 rfl ?_
      refine go_iload_n dX11_whole_41 3 rfl ?_
      obtain ⟨q2, hq2, h⟩ := go_bind h
      refine pp_callV (as := [go_on q1, .ref 12, .int a0, .int a1, .int a2]) (st := []) (rv := none) (μ1 := q2) (st1 := []) dX11_whole_42 ll_X11_329 sh_399 (by decide) rfl (ctX5_look (opX11_findText  hq1) go_isW_12 hq2) rfl (Nat.le_of_ble_eq_true rfl) (Nat.le_of_ble_eq_true rfl) (go_Z_up w _) rfl rfl ?_
      refine go_aload_n dX11_whole_45 0 rfl ?_
      refine pp_getR dX11_whole_46 ff_X11_94 (Or.inl ⟨_, rfl⟩) sh_0 rf_0_12 ?_
      refine go_iconst (v := 0) dX11_whole_49 (by decide) ?_
      obtain ⟨q3, hq3, h⟩ := go_bind h
      refine pp_callV (as := [.int 0]) (st := []) (rv := (some (.long q3))) (μ1 := q2) (st1 := [.long q3]) dX11_whole_50 ll_X11_333 sh_399 (by decide) rfl (ctX5_upperWithout  hq3) rfl (Nat.le_of_ble_eq_true rfl) (Nat.le_of_ble_eq_true rfl) (go_Z_up w _) rfl rfl ?_
      refine go_lstore dX11_whole_53 (by decide) rfl ?_
      show Go w 5 0 0 mtX11_whole 55 [(5, .long q3), (0, .ref 0), (1, .int a0), (2, .int a1), (3, .int a2), (4, .int a3)] [] (go_mk tx q2) (go_Z w Q)
      refine go_aload_n dX11_whole_55 1 rfl ?_
      refine pp_getR dX11_whole_56 ff_X11_94 (Or.inl ⟨_, rfl⟩) sh_0 rf_0_12 ?_
      refine go_iconst (v := 0) dX11_whole_59 (by decide) ?_
      obtain ⟨q4, hq4, h⟩ := go_bind h
      refine pp_callV (as := [.int 0]) (st := []) (rv := (some (.long q4))) (μ1 := q2) (st1 := [.long q4]) dX11_whole_60 ll_X11_337 sh_399 (by decide) rfl (ctX5_lowerWithout  hq4) rfl (Nat.le_of_ble_eq_true rfl) (Nat.le_of_ble_eq_true rfl) (go_Z_up w _) rfl rfl ?_
      refine go_lstore dX11_whole_63 (by decide) rfl ?_
      show Go w 5 0 0 mtX11_whole 65 [(7, .long q4), (5, .long q3), (0, .ref 0), (1, .int a0), (2, .int a1), (3, .int a2), (4, .int a3)] [] (go_mk tx q2) (go_Z w Q)
      refine go_lload dX11_whole_65 1 rfl ?_
      refine go_lload dX11_whole_67 0 rfl ?_
      obtain ⟨q5, hq5, h⟩ := go_bind h
      refine pp_callS (as := [.long q3, .long q4]) (st := []) (rv := (some (.long q5))) (μ1 := q2) (st1 := [.long q5]) dX11_whole_69 ll_X11_340 (ctX11_greatestShared  hq5) rfl (Nat.le_of_ble_eq_true rfl) (Nat.le_of_ble_eq_true rfl) (go_Z_up w _) rfl rfl ?_
      refine go_lstore dX11_whole_72 (by decide) rfl ?_
      show Go w 5 0 0 mtX11_whole 74 [(9, .long q5), (7, .long q4), (5, .long q3), (0, .ref 0), (1, .int a0), (2, .int a1), (3, .int a2), (4, .int a3)] [] (go_mk tx q2) (go_Z w Q)
      refine go_lload dX11_whole_74 0 rfl ?_
      refine go_lconst (v := 0) dX11_whole_76 (by decide) ?_
      refine go_lcmp dX11_whole_77 ?_
      refine go_if_ne 85 dX11_whole_78 (by decide) (fun hc => ?_) (fun hc => ?_)
      · have h := go_ifn hc h
        refine go_iload dX11_whole_85 7 rfl ?_
        refine go_if_eq 95 dX11_whole_87 (by decide) (fun hc => ?_) (fun hc => ?_)
        · have h := go_ifp hc h
          refine go_lload dX11_whole_95 2 rfl ?_
          refine go_lload dX11_whole_97 0 rfl ?_
          obtain ⟨hz6, h⟩ := go_nzl_e h
          refine go_ldiv dX11_whole_99 hz6 ?_
          cases h
          exact go_lret dX11_whole_100 rfl hK
        · have h := go_ifn hc h
          refine go_lload dX11_whole_90 1 rfl ?_
          refine go_goto 97 dX11_whole_92 (by decide) ?_
          refine go_lload dX11_whole_97 0 rfl ?_
          obtain ⟨hz7, h⟩ := go_nzl_e h
          refine go_ldiv dX11_whole_99 hz7 ?_
          cases h
          exact go_lret dX11_whole_100 rfl hK
      · have h := go_ifp hc h
        refine go_ldc2 dX11_whole_81 kl_X11_327 ?_
        cases h
        exact go_lret dX11_whole_84 rfl hK
    · have h := go_ifp hc h
      refine go_ldc2 dX11_whole_16 kl_X11_327 ?_
      cases h
      exact go_lret dX11_whole_19 rfl hK
theorem ctX11_whole {w : go_Wd} {tx : Nat} {μ : PM} {a0 : Int32} {a1 : Int32} {a2 : Int32} {a3 : Int32} {r : Int64} {μ1 : PM}  (h : fX11_whole μ a0 a1 a2 a3 = some (r, μ1)) : Ct w 5 0 0 mtX11_whole [.ref 0, .int a0, .int a1, .int a2, .int a3] (go_mk tx μ) (fun r' M' => r' = some (.long r) ∧ M' = go_mk tx μ1) :=
  go_entry rfl (by decide) (Nat.le_of_ble_eq_true rfl) (cmX11_whole w tx _ μ a0 a1 a2 a3 _ h ⟨rfl, rfl⟩)
def fX11_clear (μ : PM) (a0 : Int32) (a1 : Int32) (a2 : Int32) (a3 : Int32) : Option (Int32 × PM) :=
  (if (fX11_isName μ a0) = 0 then some (((-1), μ)) else (if (fX11_isWay a1 a2) = 0 then some (((-1), μ)) else (if a3 < 1 then some (((-1), μ)) else (if a3 ≤ 10 then (fX11_findText μ (μ.1 1 14)).bind fun q1 => (fX5_look μ q1 12 a0 a1 a2).bind fun q2 => (fX5_fewestToClear q2 a3).bind fun q3 => some ((q3, q2)) else some (((-1), μ))))))
set_option maxRecDepth 20000 in
set_option maxHeartbeats 4000000 in
theorem cmX11_clear (w : go_Wd) (tx : Nat) (Q : Option Value → go_M → Prop) (μ : PM) (a0 : Int32) (a1 : Int32) (a2 : Int32) (a3 : Int32) (out : Int32 × PM) (h : fX11_clear μ a0 a1 a2 a3 = some out) (hK : Q (some (.int out.1)) (go_mk tx out.2)) : Go w 5 0 0 mtX11_clear 0 [(0, .ref 0), (1, .int a0), (2, .int a1), (3, .int a2), (4, .int a3)] [] (go_mk tx μ) (go_Z w Q) := by
  unfold fX11_clear at h
  refine go_aload_n dX11_clear_0 0 rfl ?_
  refine go_iload_n dX11_clear_1 1 rfl ?_
  refine pp_callV (as := [.int a0]) (st := []) (rv := (some (.int (fX11_isName μ a0)))) (μ1 := μ) (st1 := [.int (fX11_isName μ a0)]) dX11_clear_2 ll_X11_240 sh_0 (by decide) rfl (ctX11_isName  rfl) rfl (Nat.le_of_ble_eq_true rfl) (Nat.le_of_ble_eq_true rfl) (go_Z_up w _) rfl rfl ?_
  refine go_if_eq 29 dX11_clear_5 (by decide) (fun hc => ?_) (fun hc => ?_)
  · have h := go_ifp hc h
    refine go_iconst (v := (-1)) dX11_clear_29 (by decide) ?_
    cases h
    exact go_iret dX11_clear_30 rfl hK
  · have h := go_ifn hc h
    refine go_iload_n dX11_clear_8 2 rfl ?_
    refine go_iload_n dX11_clear_9 3 rfl ?_
    refine pp_callS (as := [.int a1, .int a2]) (st := []) (rv := (some (.int (fX11_isWay a1 a2)))) (μ1 := μ) (st1 := [.int (fX11_isWay a1 a2)]) dX11_clear_10 ll_X11_324 (ctX11_isWay  rfl) rfl (Nat.le_of_ble_eq_true rfl) (Nat.le_of_ble_eq_true rfl) (go_Z_up w _) rfl rfl ?_
    refine go_if_eq 29 dX11_clear_13 (by decide) (fun hc => ?_) (fun hc => ?_)
    · have h := go_ifp hc h
      refine go_iconst (v := (-1)) dX11_clear_29 (by decide) ?_
      cases h
      exact go_iret dX11_clear_30 rfl hK
    · have h := go_ifn hc h
      refine go_iload dX11_clear_16 4 rfl ?_
      refine go_iconst (v := 1) dX11_clear_18 (by decide) ?_
      refine go_icmp_lt 29 dX11_clear_19 (by decide) (fun hc => ?_) (fun hc => ?_)
      · have h := go_ifp hc h
        refine go_iconst (v := (-1)) dX11_clear_29 (by decide) ?_
        cases h
        exact go_iret dX11_clear_30 rfl hK
      · have h := go_ifn hc h
        refine go_iload dX11_clear_22 4 rfl ?_
        refine go_bipush (v := 10) dX11_clear_24 (by decide) ?_
        refine go_icmp_le 31 dX11_clear_26 (by decide) (fun hc => ?_) (fun hc => ?_)
        · have h := go_ifp hc h
          refine go_aload_n dX11_clear_31 0 rfl ?_
          refine pp_getR dX11_clear_32 ff_X11_94 (Or.inl ⟨_, rfl⟩) sh_0 rf_0_12 ?_
          refine go_aload_n dX11_clear_35 0 rfl ?_
          refine go_aload_n dX11_clear_36 0 rfl ?_
          refine pp_getR dX11_clear_37 ff_X11_10 (Or.inl ⟨_, rfl⟩) sh_0 rf_0_0 ?_
          refine pp_getI dX11_clear_40 ff_X11_169 (by decide) go_isV_1.1 ?_
          obtain ⟨q1, hq1, h⟩ := go_bind h
          refine pp_callV (as := [.int (μ.1 1 14)]) (st := [.ref 399]) (rv := (some (go_on q1))) (μ1 := μ) (st1 := [go_on q1, .ref 399]) dX11_clear_43 ll_X11_204 sh_0 (by decide) rfl (ctX11_findText  hq1) rfl (Nat.le_of_ble_eq_true rfl) (Nat.le_of_ble_eq_true rfl) (go_Z_up w _) rfl rfl ?_
          refine go_aload_n dX11_clear_46 0 rfl ?_
          refine pp_getR dX11_clear_47 ff_X11_20 (Or.inl ⟨_, rfl⟩) sh_0 rf_0_1 ?_
          refine go_iload_n dX11_clear_50 1 rfl ?_
          refine go_iload_n dX11_clear_51 2 rfl ?_
          refine go_iload_n dX11_clear_52 3 rfl ?_
          obtain ⟨q2, hq2, h⟩ := go_bind h
          refine pp_callV (as := [go_on q1, .ref 12, .int a0, .int a1, .int a2]) (st := []) (rv := none) (μ1 := q2) (st1 := []) dX11_clear_53 ll_X11_329 sh_399 (by decide) rfl (ctX5_look (opX11_findText  hq1) go_isW_12 hq2) rfl (Nat.le_of_ble_eq_true rfl) (Nat.le_of_ble_eq_true rfl) (go_Z_up w _) rfl rfl ?_
          refine go_aload_n dX11_clear_56 0 rfl ?_
          refine pp_getR dX11_clear_57 ff_X11_94 (Or.inl ⟨_, rfl⟩) sh_0 rf_0_12 ?_
          refine go_iload dX11_clear_60 4 rfl ?_
          obtain ⟨q3, hq3, h⟩ := go_bind h
          refine pp_callV (as := [.int a3]) (st := []) (rv := (some (.int q3))) (μ1 := q2) (st1 := [.int q3]) dX11_clear_62 ll_X11_344 sh_399 (by decide) rfl (ctX5_fewestToClear  hq3) rfl (Nat.le_of_ble_eq_true rfl) (Nat.le_of_ble_eq_true rfl) (go_Z_up w _) rfl rfl ?_
          cases h
          exact go_iret dX11_clear_65 rfl hK
        · have h := go_ifn hc h
          refine go_iconst (v := (-1)) dX11_clear_29 (by decide) ?_
          cases h
          exact go_iret dX11_clear_30 rfl hK
theorem ctX11_clear {w : go_Wd} {tx : Nat} {μ : PM} {a0 : Int32} {a1 : Int32} {a2 : Int32} {a3 : Int32} {r : Int32} {μ1 : PM}  (h : fX11_clear μ a0 a1 a2 a3 = some (r, μ1)) : Ct w 5 0 0 mtX11_clear [.ref 0, .int a0, .int a1, .int a2, .int a3] (go_mk tx μ) (fun r' M' => r' = some (.int r) ∧ M' = go_mk tx μ1) :=
  go_entry rfl (by decide) (Nat.le_of_ble_eq_true rfl) (cmX11_clear w tx _ μ a0 a1 a2 a3 _ h ⟨rfl, rfl⟩)
def fX11_half (μ : PM) (a0 : Int32) : Option (Int32 × PM) :=
  (if a0 = (-1) then go_let (pm_wi μ 1 16 0) fun μ5 => some ((0, μ5)) else (fX11_countSounds a0).bind fun q1 => (if q1 = 0 then some (((-2), μ)) else (if (μ.1 1 16) < 0 then some (((-2), μ)) else (if (μ.1 1 16) < 8 then go_chk (μ.1 1 16) 8 <| go_let (pm_wi μ 9 ((μ.1 1 16) : Int32).toNatClampNeg a0) fun μ2 => go_let (pm_wi μ2 1 16 ((μ2.1 1 16) + 1)) fun μ4 => some (((μ4.1 1 16), μ4)) else some (((-2), μ))))))
set_option maxRecDepth 20000 in
set_option maxHeartbeats 4000000 in
theorem cmX11_half (w : go_Wd) (tx : Nat) (Q : Option Value → go_M → Prop) (μ : PM) (a0 : Int32) (out : Int32 × PM) (h : fX11_half μ a0 = some out) (hK : Q (some (.int out.1)) (go_mk tx out.2)) : Go w 1 0 0 mtX11_half 0 [(0, .ref 0), (1, .int a0)] [] (go_mk tx μ) (go_Z w Q) := by
  unfold fX11_half at h
  refine go_iload_n dX11_half_0 1 rfl ?_
  refine go_iconst (v := (-1)) dX11_half_1 (by decide) ?_
  refine go_icmp_ne 15 dX11_half_2 (by decide) (fun hc => ?_) (fun hc => ?_)
  · have h := go_ifn hc h
    refine go_aload_n dX11_half_15 0 rfl ?_
    refine pp_getR dX11_half_16 ff_X11_10 (Or.inl ⟨_, rfl⟩) sh_0 rf_0_0 ?_
    refine pp_getI dX11_half_19 ff_X11_347 (by decide) go_isV_1.1 ?_
    refine go_istore_n dX11_half_22 (by decide) rfl ?_
    show Go w 1 0 0 mtX11_half 23 [(2, .int (μ.1 1 16)), (0, .ref 0), (1, .int a0)] [] (go_mk tx μ) (go_Z w Q)
    refine go_iload_n dX11_half_23 2 rfl ?_
    obtain ⟨q1, hq1, h⟩ := go_bind h
    refine pp_callS (as := [.int a0]) (st := []) (rv := (some (.int q1))) (μ1 := μ) (st1 := [.int q1]) dX11_half_24 ll_X11_102 (ctX11_countSounds  hq1) rfl (Nat.le_of_ble_eq_true rfl) (Nat.le_of_ble_eq_true rfl) (go_Z_up w _) rfl rfl ?_
    refine go_if_eq 40 dX11_half_27 (by decide) (fun hc => ?_) (fun hc => ?_)
    · have h := go_ifp hc h
      refine go_bipush (v := (-2)) dX11_half_40 (by decide) ?_
      cases h
      exact go_iret dX11_half_42 rfl hK
    · have h := go_ifn hc h
      refine go_iload_n dX11_half_30 0 rfl ?_
      refine go_if_lt 40 dX11_half_31 (by decide) (fun hc => ?_) (fun hc => ?_)
      · have h := go_ifp hc h
        refine go_bipush (v := (-2)) dX11_half_40 (by decide) ?_
        cases h
        exact go_iret dX11_half_42 rfl hK
      · have h := go_ifn hc h
        refine go_iload_n dX11_half_34 0 rfl ?_
        refine go_bipush (v := 8) dX11_half_35 (by decide) ?_
        refine go_icmp_lt 43 dX11_half_37 (by decide) (fun hc => ?_) (fun hc => ?_)
        · have h := go_ifp hc h
          refine go_aload_n dX11_half_43 1 rfl ?_
          refine pp_getR dX11_half_44 ff_X11_10 (Or.inl ⟨_, rfl⟩) sh_0 rf_0_0 ?_
          refine pp_getR dX11_half_47 ff_X11_350 (Or.inr ⟨_, rfl⟩) go_isV_1.1 rf_1_7 ?_
          refine go_iload_n dX11_half_50 0 rfl ?_
          refine go_iload_n dX11_half_51 2 rfl ?_
          obtain ⟨hz3, h⟩ := go_chk_e h
          obtain ⟨μ2, hμ2, h⟩ := go_let_e h
          refine pp_ist dX11_half_52 sh_9 hz3 hμ2 ?_
          refine go_aload_n dX11_half_53 1 rfl ?_
          refine pp_getR dX11_half_54 ff_X11_10 (Or.inl ⟨_, rfl⟩) sh_0 rf_0_0 ?_
          refine go_dup dX11_half_57 rfl ?_
          refine pp_getI dX11_half_58 ff_X11_347 (by decide) go_isV_1.1 ?_
          refine go_iconst (v := 1) dX11_half_61 (by decide) ?_
          refine go_iadd dX11_half_62 ?_
          obtain ⟨μ4, hμ4, h⟩ := go_let_e h
          refine pp_putI dX11_half_63 ff_X11_347 (Or.inl rfl) go_isV_1.1 hμ4 ?_
          refine go_aload_n dX11_half_66 1 rfl ?_
          refine pp_getR dX11_half_67 ff_X11_10 (Or.inl ⟨_, rfl⟩) sh_0 rf_0_0 ?_
          refine pp_getI dX11_half_70 ff_X11_347 (by decide) go_isV_1.1 ?_
          cases h
          exact go_iret dX11_half_73 rfl hK
        · have h := go_ifn hc h
          refine go_bipush (v := (-2)) dX11_half_40 (by decide) ?_
          cases h
          exact go_iret dX11_half_42 rfl hK
  · have h := go_ifp hc h
    refine go_aload_n dX11_half_5 0 rfl ?_
    refine pp_getR dX11_half_6 ff_X11_10 (Or.inl ⟨_, rfl⟩) sh_0 rf_0_0 ?_
    refine go_iconst (v := 0) dX11_half_9 (by decide) ?_
    obtain ⟨μ5, hμ5, h⟩ := go_let_e h
    refine pp_putI dX11_half_10 ff_X11_347 (Or.inl rfl) go_isV_1.1 hμ5 ?_
    refine go_iconst (v := 0) dX11_half_13 (by decide) ?_
    cases h
    exact go_iret dX11_half_14 rfl hK
theorem ctX11_half {w : go_Wd} {tx : Nat} {μ : PM} {a0 : Int32} {r : Int32} {μ1 : PM}  (h : fX11_half μ a0 = some (r, μ1)) : Ct w 1 0 0 mtX11_half [.ref 0, .int a0] (go_mk tx μ) (fun r' M' => r' = some (.int r) ∧ M' = go_mk tx μ1) :=
  go_entry rfl (by decide) (Nat.le_of_ble_eq_true rfl) (cmX11_half w tx _ μ a0 _ h ⟨rfl, rfl⟩)
def fX11_joins (μ : PM) (a0 : Int32) : Option (Int32 × PM) :=
  (if (-1) ≤ a0 then (fX1_join μ).bind fun q1 => (if a0 = (-1) then some (((q1.1 394 4), q1)) else (if (q1.1 394 4) ≤ a0 then some (((-2), q1)) else (if 4 ≤ a0 then some (((-2), q1)) else go_chk a0 4 <| some (((q1.1 397 a0.toNatClampNeg), q1))))) else some (((-2), μ)))
set_option maxRecDepth 20000 in
set_option maxHeartbeats 4000000 in
theorem cmX11_joins (w : go_Wd) (tx : Nat) (Q : Option Value → go_M → Prop) (μ : PM) (a0 : Int32) (out : Int32 × PM) (h : fX11_joins μ a0 = some out) (hK : Q (some (.int out.1)) (go_mk tx out.2)) : Go w 4 0 0 mtX11_joins 0 [(0, .ref 0), (1, .int a0)] [] (go_mk tx μ) (go_Z w Q) := by
  unfold fX11_joins at h
  refine go_iload_n dX11_joins_0 1 rfl ?_
  refine go_iconst (v := (-1)) dX11_joins_1 (by decide) ?_
  refine go_icmp_ge 8 dX11_joins_2 (by decide) (fun hc => ?_) (fun hc => ?_)
  · have h := go_ifp hc h
    refine go_aload_n dX11_joins_8 0 rfl ?_
    refine pp_getR dX11_joins_9 ff_X11_78 (Or.inl ⟨_, rfl⟩) sh_0 rf_0_10 ?_
    obtain ⟨q1, hq1, h⟩ := go_bind h
    refine pp_callV (as := []) (st := []) (rv := none) (μ1 := q1) (st1 := []) dX11_joins_12 ll_X11_353 sh_394 (by decide) rfl (ctX1_join  hq1) rfl (Nat.le_of_ble_eq_true rfl) (Nat.le_of_ble_eq_true rfl) (go_Z_up w _) rfl rfl ?_
    refine go_iload_n dX11_joins_15 1 rfl ?_
    refine go_iconst (v := (-1)) dX11_joins_16 (by decide) ?_
    refine go_icmp_ne 28 dX11_joins_17 (by decide) (fun hc => ?_) (fun hc => ?_)
    · have h := go_ifn hc h
      refine go_iload_n dX11_joins_28 1 rfl ?_
      refine go_aload_n dX11_joins_29 0 rfl ?_
      refine pp_getR dX11_joins_30 ff_X11_78 (Or.inl ⟨_, rfl⟩) sh_0 rf_0_10 ?_
      refine pp_getI dX11_joins_33 ff_X11_356 (by decide) sh_394 ?_
      refine go_icmp_ge 63 dX11_joins_36 (by decide) (fun hc => ?_) (fun hc => ?_)
      · have h := go_ifp hc h
        refine go_bipush (v := (-2)) dX11_joins_63 (by decide) ?_
        cases h
        exact go_iret dX11_joins_65 rfl hK
      · have h := go_ifn hc h
        refine go_iload_n dX11_joins_39 1 rfl ?_
        refine go_aload_n dX11_joins_40 0 rfl ?_
        refine pp_getR dX11_joins_41 ff_X11_78 (Or.inl ⟨_, rfl⟩) sh_0 rf_0_10 ?_
        refine pp_getR dX11_joins_44 ff_X11_357 (Or.inr ⟨_, rfl⟩) sh_394 rf_394_3 ?_
        refine pp_alen (v := 4) dX11_joins_47 sh_397 (by decide) ?_
        refine go_icmp_ge 63 dX11_joins_48 (by decide) (fun hc => ?_) (fun hc => ?_)
        · have h := go_ifp hc h
          refine go_bipush (v := (-2)) dX11_joins_63 (by decide) ?_
          cases h
          exact go_iret dX11_joins_65 rfl hK
        · have h := go_ifn hc h
          refine go_aload_n dX11_joins_51 0 rfl ?_
          refine pp_getR dX11_joins_52 ff_X11_78 (Or.inl ⟨_, rfl⟩) sh_0 rf_0_10 ?_
          refine pp_getR dX11_joins_55 ff_X11_357 (Or.inr ⟨_, rfl⟩) sh_394 rf_394_3 ?_
          refine go_iload_n dX11_joins_58 1 rfl ?_
          obtain ⟨hz2, h⟩ := go_chk_e h
          refine pp_ild dX11_joins_59 sh_397 hz2 ?_
          refine go_goto 65 dX11_joins_60 (by decide) ?_
          cases h
          exact go_iret dX11_joins_65 rfl hK
    · have h := go_ifp hc h
      refine go_aload_n dX11_joins_20 0 rfl ?_
      refine pp_getR dX11_joins_21 ff_X11_78 (Or.inl ⟨_, rfl⟩) sh_0 rf_0_10 ?_
      refine pp_getI dX11_joins_24 ff_X11_356 (by decide) sh_394 ?_
      cases h
      exact go_iret dX11_joins_27 rfl hK
  · have h := go_ifn hc h
    refine go_bipush (v := (-2)) dX11_joins_5 (by decide) ?_
    cases h
    exact go_iret dX11_joins_7 rfl hK
theorem ctX11_joins {w : go_Wd} {tx : Nat} {μ : PM} {a0 : Int32} {r : Int32} {μ1 : PM}  (h : fX11_joins μ a0 = some (r, μ1)) : Ct w 4 0 0 mtX11_joins [.ref 0, .int a0] (go_mk tx μ) (fun r' M' => r' = some (.int r) ∧ M' = go_mk tx μ1) :=
  go_entry rfl (by decide) (Nat.le_of_ble_eq_true rfl) (cmX11_joins w tx _ μ a0 _ h ⟨rfl, rfl⟩)
def lbX11_layers_23 (μ : PM) (a0 : Int32)  (v2 : Int32) (v3 : Int32) : Option ((Int32 × Int32) ⊕ (Int32)) :=
  (if (μ.1 12 5) ≤ v3 then some (.inr (v2)) else (if 6 ≤ v3 then some (.inr (v2)) else (if (fX11_hasBit a0 v3) = 0 then some (.inl (v2, (v3 + 1))) else go_chk v3 6 <| go_let ((v2 ||| ((1 : Int32) <<< ((μ.1 3 v3.toNatClampNeg) &&& 31)))) fun x2 => some (.inl (x2, (v3 + 1))))))
def fX11_layers (μ : PM) (a0 : Int32) : Option (Int32) :=
  (if a0 < 0 then some ((-1)) else (if a0 < ((1 : Int32) <<< ((μ.1 12 5) &&& 31)) then ((lp (fun s => lbX11_layers_23 μ a0 s.1 s.2) go_fuel (0, 0)).bind fun ρ3 => some ρ3) else some ((-1))))
def ggX11_layers_23 (w : go_Wd) (tx : Nat) (Q : Option Value → go_M → Prop) (μ : PM) (a0 : Int32)  (s : Int32 × Int32) : Prop := Go w 1 0 0 mtX11_layers 23 [(0, .ref 0), (1, .int a0), (2, .int s.1), (3, .int s.2)] [] (go_mk tx μ) (go_Z w Q)
def eeX11_layers_23 (w : go_Wd) (tx : Nat) (Q : Option Value → go_M → Prop) (μ : PM) (a0 : Int32)  (y : Int32) : Prop := Q (some (.int y)) (go_mk tx μ)
set_option maxRecDepth 20000 in
set_option maxHeartbeats 4000000 in
theorem lqX11_layers_23 (w : go_Wd) (tx : Nat) (Q : Option Value → go_M → Prop) (μ : PM) (a0 : Int32)   (v2 : Int32) (v3 : Int32) (out : (Int32 × Int32) ⊕ (Int32)) (h : lbX11_layers_23 μ a0  v2 v3 = some out) (hK : go_out (ggX11_layers_23 w tx Q μ a0 ) (eeX11_layers_23 w tx Q μ a0 ) out) : ggX11_layers_23 w tx Q μ a0  (v2, v3) := by
  unfold lbX11_layers_23 at h
  show Go w 1 0 0 mtX11_layers 23 [(0, .ref 0), (1, .int a0), (2, .int v2), (3, .int v3)] [] (go_mk tx μ) (go_Z w Q)
  refine go_iload_n dX11_layers_23 3 rfl ?_
  refine go_aload_n dX11_layers_24 0 rfl ?_
  refine pp_getR dX11_layers_25 ff_X11_20 (Or.inl ⟨_, rfl⟩) sh_0 rf_0_1 ?_
  refine pp_getI dX11_layers_28 ff_X11_106 (by decide) go_isW_12.1 ?_
  refine go_icmp_ge 68 dX11_layers_31 (by decide) (fun hc => ?_) (fun hc => ?_)
  · have h := go_ifp hc h
    refine go_iload_n dX11_layers_68 2 rfl ?_
    cases h
    exact go_iret dX11_layers_69 rfl hK
  · have h := go_ifn hc h
    refine go_iload_n dX11_layers_34 3 rfl ?_
    refine go_bipush (v := 6) dX11_layers_35 (by decide) ?_
    refine go_icmp_ge 68 dX11_layers_37 (by decide) (fun hc => ?_) (fun hc => ?_)
    · have h := go_ifp hc h
      refine go_iload_n dX11_layers_68 2 rfl ?_
      cases h
      exact go_iret dX11_layers_69 rfl hK
    · have h := go_ifn hc h
      refine go_iload_n dX11_layers_40 1 rfl ?_
      refine go_iload_n dX11_layers_41 3 rfl ?_
      refine pp_callS (as := [.int a0, .int v3]) (st := []) (rv := (some (.int (fX11_hasBit a0 v3)))) (μ1 := μ) (st1 := [.int (fX11_hasBit a0 v3)]) dX11_layers_42 ll_X11_188 (ctX11_hasBit  rfl) rfl (Nat.le_of_ble_eq_true rfl) (Nat.le_of_ble_eq_true rfl) (go_Z_up w _) rfl rfl ?_
      refine go_if_eq 62 dX11_layers_45 (by decide) (fun hc => ?_) (fun hc => ?_)
      · have h := go_ifp hc h
        refine go_iinc (v := (v3 + 1)) dX11_layers_62 3 rfl rfl (by decide) rfl ?_
        show Go w 1 0 0 mtX11_layers 65 [(3, .int (v3 + 1)), (0, .ref 0), (1, .int a0), (2, .int v2)] [] (go_mk tx μ) (go_Z w Q)
        refine go_goto 23 dX11_layers_65 (by decide) ?_
        cases h
        have hK : Go w 1 0 0 mtX11_layers 23 [(0, .ref 0), (1, .int a0), (2, .int v2), (3, .int (v3 + 1))] [] (go_mk tx μ) (go_Z w Q) := hK
        exact go_pick [1, 2, 3, 0] rfl hK
      · have h := go_ifn hc h
        refine go_iload_n dX11_layers_48 2 rfl ?_
        refine go_iconst (v := 1) dX11_layers_49 (by decide) ?_
        refine go_aload_n dX11_layers_50 0 rfl ?_
        refine pp_getR dX11_layers_51 ff_X11_10 (Or.inl ⟨_, rfl⟩) sh_0 rf_0_0 ?_
        refine pp_getR dX11_layers_54 ff_X11_112 (Or.inr ⟨_, rfl⟩) go_isV_1.1 rf_1_1 ?_
        refine go_iload_n dX11_layers_57 3 rfl ?_
        obtain ⟨hz1, h⟩ := go_chk_e h
        refine pp_ild dX11_layers_58 sh_3 hz1 ?_
        refine go_ishl dX11_layers_59 ?_
        refine go_ior dX11_layers_60 ?_
        obtain ⟨x2, hx2, h⟩ := go_let_e h
        refine go_top hx2 ?_
        refine go_istore_n dX11_layers_61 (by decide) rfl ?_
        show Go w 1 0 0 mtX11_layers 62 [(2, .int x2), (0, .ref 0), (1, .int a0), (3, .int v3)] [] (go_mk tx μ) (go_Z w Q)
        refine go_iinc (v := (v3 + 1)) dX11_layers_62 3 rfl rfl (by decide) rfl ?_
        show Go w 1 0 0 mtX11_layers 65 [(3, .int (v3 + 1)), (2, .int x2), (0, .ref 0), (1, .int a0)] [] (go_mk tx μ) (go_Z w Q)
        refine go_goto 23 dX11_layers_65 (by decide) ?_
        cases h
        have hK : Go w 1 0 0 mtX11_layers 23 [(0, .ref 0), (1, .int a0), (2, .int x2), (3, .int (v3 + 1))] [] (go_mk tx μ) (go_Z w Q) := hK
        exact go_pick [2, 3, 1, 0] rfl hK
set_option maxRecDepth 20000 in
set_option maxHeartbeats 4000000 in
theorem cmX11_layers (w : go_Wd) (tx : Nat) (Q : Option Value → go_M → Prop) (μ : PM) (a0 : Int32) (out : Int32) (h : fX11_layers μ a0 = some out) (hK : Q (some (.int out)) (go_mk tx μ)) : Go w 1 0 0 mtX11_layers 0 [(0, .ref 0), (1, .int a0)] [] (go_mk tx μ) (go_Z w Q) := by
  unfold fX11_layers at h
  refine go_iload_n dX11_layers_0 1 rfl ?_
  refine go_if_lt 17 dX11_layers_1 (by decide) (fun hc => ?_) (fun hc => ?_)
  · have h := go_ifp hc h
    refine go_iconst (v := (-1)) dX11_layers_17 (by decide) ?_
    cases h
    exact go_iret dX11_layers_18 rfl hK
  · have h := go_ifn hc h
    refine go_iload_n dX11_layers_4 1 rfl ?_
    refine go_iconst (v := 1) dX11_layers_5 (by decide) ?_
    refine go_aload_n dX11_layers_6 0 rfl ?_
    refine pp_getR dX11_layers_7 ff_X11_20 (Or.inl ⟨_, rfl⟩) sh_0 rf_0_1 ?_
    refine pp_getI dX11_layers_10 ff_X11_106 (by decide) go_isW_12.1 ?_
    refine go_ishl dX11_layers_13 ?_
    refine go_icmp_lt 19 dX11_layers_14 (by decide) (fun hc => ?_) (fun hc => ?_)
    · have h := go_ifp hc h
      refine go_iconst (v := 0) dX11_layers_19 (by decide) ?_
      refine go_istore_n dX11_layers_20 (by decide) rfl ?_
      show Go w 1 0 0 mtX11_layers 21 [(2, .int 0), (0, .ref 0), (1, .int a0)] [] (go_mk tx μ) (go_Z w Q)
      refine go_iconst (v := 0) dX11_layers_21 (by decide) ?_
      refine go_istore_n dX11_layers_22 (by decide) rfl ?_
      show Go w 1 0 0 mtX11_layers 23 [(3, .int 0), (2, .int 0), (0, .ref 0), (1, .int a0)] [] (go_mk tx μ) (go_Z w Q)
      obtain ⟨ρ3, hρ3, h⟩ := go_bind h
      refine go_pick [2, 3, 1, 0] rfl ?_
      refine go_lp (G := ggX11_layers_23 w tx Q μ a0 ) (E := eeX11_layers_23 w tx Q μ a0 ) (fun s out h hK => lqX11_layers_23 w tx Q μ a0   s.1 s.2 out h hK) go_fuel (0, 0) ρ3 hρ3 ?_
      cases h
      exact hK
    · have h := go_ifn hc h
      refine go_iconst (v := (-1)) dX11_layers_17 (by decide) ?_
      cases h
      exact go_iret dX11_layers_18 rfl hK
theorem ctX11_layers {w : go_Wd} {tx : Nat} {μ : PM} {a0 : Int32} {r : Int32}  (h : fX11_layers μ a0 = some r) : Ct w 1 0 0 mtX11_layers [.ref 0, .int a0] (go_mk tx μ) (fun r' M' => r' = some (.int r) ∧ M' = go_mk tx μ) :=
  go_entry rfl (by decide) (Nat.le_of_ble_eq_true rfl) (cmX11_layers w tx _ μ a0 _ h ⟨rfl, rfl⟩)
def lbX11_countShared_7 (a0 : Int32) (a1 : Int32)  (v2 : Int32) (v3 : Int32) (v4 : Int32) : Option ((Int32 × Int32 × Int32) ⊕ (Int32)) :=
  (if 5 ≤ v2 then some (.inr (v2)) else (if v3 ≤ 0 then some (.inr (v2)) else (if v4 ≤ 0 then some (.inr (v2)) else (if (jrem v3 10) = (jrem v4 10) then some (.inl ((v2 + 1), (v3 / 10), (v4 / 10))) else some (.inr (v2))))))
def fX11_countShared (a0 : Int32) (a1 : Int32) : Option (Int32) :=
  ((lp (fun s => lbX11_countShared_7 a0 a1 s.1 s.2.1 s.2.2) go_fuel (0, a0, a1)).bind fun ρ1 => some ρ1)
def ggX11_countShared_7 (w : go_Wd) (tx : Nat) (Q : Option Value → go_M → Prop) (μ : PM) (a0 : Int32) (a1 : Int32)  (s : Int32 × Int32 × Int32) : Prop := Go w 0 0 0 mtX11_countShared 7 [(2, .int s.1), (3, .int s.2.1), (4, .int s.2.2)] [] (go_mk tx μ) (go_Z w Q)
def eeX11_countShared_7 (w : go_Wd) (tx : Nat) (Q : Option Value → go_M → Prop) (μ : PM) (a0 : Int32) (a1 : Int32)  (y : Int32) : Prop := Q (some (.int y)) (go_mk tx μ)
set_option maxRecDepth 20000 in
set_option maxHeartbeats 4000000 in
theorem lqX11_countShared_7 (w : go_Wd) (tx : Nat) (Q : Option Value → go_M → Prop) (μ : PM) (a0 : Int32) (a1 : Int32)   (v2 : Int32) (v3 : Int32) (v4 : Int32) (out : (Int32 × Int32 × Int32) ⊕ (Int32)) (h : lbX11_countShared_7 a0 a1  v2 v3 v4 = some out) (hK : go_out (ggX11_countShared_7 w tx Q μ a0 a1 ) (eeX11_countShared_7 w tx Q μ a0 a1 ) out) : ggX11_countShared_7 w tx Q μ a0 a1  (v2, v3, v4) := by
  unfold lbX11_countShared_7 at h
  show Go w 0 0 0 mtX11_countShared 7 [(2, .int v2), (3, .int v3), (4, .int v4)] [] (go_mk tx μ) (go_Z w Q)
  refine go_iload_n dX11_countShared_7 0 rfl ?_
  refine go_iconst (v := 5) dX11_countShared_8 (by decide) ?_
  refine go_icmp_ge 51 dX11_countShared_9 (by decide) (fun hc => ?_) (fun hc => ?_)
  · have h := go_ifp hc h
    refine go_iload_n dX11_countShared_51 0 rfl ?_
    cases h
    exact go_iret dX11_countShared_52 rfl hK
  · have h := go_ifn hc h
    refine go_iload_n dX11_countShared_12 1 rfl ?_
    refine go_if_le 51 dX11_countShared_13 (by decide) (fun hc => ?_) (fun hc => ?_)
    · have h := go_ifp hc h
      refine go_iload_n dX11_countShared_51 0 rfl ?_
      cases h
      exact go_iret dX11_countShared_52 rfl hK
    · have h := go_ifn hc h
      refine go_iload dX11_countShared_16 2 rfl ?_
      refine go_if_le 51 dX11_countShared_18 (by decide) (fun hc => ?_) (fun hc => ?_)
      · have h := go_ifp hc h
        refine go_iload_n dX11_countShared_51 0 rfl ?_
        cases h
        exact go_iret dX11_countShared_52 rfl hK
      · have h := go_ifn hc h
        refine go_iload_n dX11_countShared_21 1 rfl ?_
        refine go_bipush (v := 10) dX11_countShared_22 (by decide) ?_
        refine go_iremJ dX11_countShared_24 (by decide) ?_
        refine go_iload dX11_countShared_25 2 rfl ?_
        refine go_bipush (v := 10) dX11_countShared_27 (by decide) ?_
        refine go_iremJ dX11_countShared_29 (by decide) ?_
        refine go_icmp_ne 51 dX11_countShared_30 (by decide) (fun hc => ?_) (fun hc => ?_)
        · have h := go_ifn hc h
          refine go_iload_n dX11_countShared_51 0 rfl ?_
          cases h
          exact go_iret dX11_countShared_52 rfl hK
        · have h := go_ifp hc h
          refine go_iinc (v := (v2 + 1)) dX11_countShared_33 0 rfl rfl (by decide) rfl ?_
          show Go w 0 0 0 mtX11_countShared 36 [(2, .int (v2 + 1)), (3, .int v3), (4, .int v4)] [] (go_mk tx μ) (go_Z w Q)
          refine go_iload_n dX11_countShared_36 1 rfl ?_
          refine go_bipush (v := 10) dX11_countShared_37 (by decide) ?_
          refine go_idiv dX11_countShared_39 (by decide) ?_
          refine go_istore_n dX11_countShared_40 (by decide) rfl ?_
          show Go w 0 0 0 mtX11_countShared 41 [(3, .int (v3 / 10)), (2, .int (v2 + 1)), (4, .int v4)] [] (go_mk tx μ) (go_Z w Q)
          refine go_iload dX11_countShared_41 2 rfl ?_
          refine go_bipush (v := 10) dX11_countShared_43 (by decide) ?_
          refine go_idiv dX11_countShared_45 (by decide) ?_
          refine go_istore dX11_countShared_46 (by decide) rfl ?_
          show Go w 0 0 0 mtX11_countShared 48 [(4, .int (v4 / 10)), (3, .int (v3 / 10)), (2, .int (v2 + 1))] [] (go_mk tx μ) (go_Z w Q)
          refine go_goto 7 dX11_countShared_48 (by decide) ?_
          cases h
          have hK : Go w 0 0 0 mtX11_countShared 7 [(2, .int (v2 + 1)), (3, .int (v3 / 10)), (4, .int (v4 / 10))] [] (go_mk tx μ) (go_Z w Q) := hK
          exact go_pick [2, 1, 0] rfl hK
set_option maxRecDepth 20000 in
set_option maxHeartbeats 4000000 in
theorem cmX11_countShared (w : go_Wd) (tx : Nat) (Q : Option Value → go_M → Prop) (μ : PM) (a0 : Int32) (a1 : Int32) (out : Int32) (h : fX11_countShared a0 a1 = some out) (hK : Q (some (.int out)) (go_mk tx μ)) : Go w 0 0 0 mtX11_countShared 0 [(0, .int a0), (1, .int a1)] [] (go_mk tx μ) (go_Z w Q) := by
  unfold fX11_countShared at h
  refine go_iconst (v := 0) dX11_countShared_0 (by decide) ?_
  refine go_istore_n dX11_countShared_1 (by decide) rfl ?_
  show Go w 0 0 0 mtX11_countShared 2 [(2, .int 0), (0, .int a0), (1, .int a1)] [] (go_mk tx μ) (go_Z w Q)
  refine go_iload_n dX11_countShared_2 1 rfl ?_
  refine go_istore_n dX11_countShared_3 (by decide) rfl ?_
  show Go w 0 0 0 mtX11_countShared 4 [(3, .int a0), (2, .int 0), (0, .int a0), (1, .int a1)] [] (go_mk tx μ) (go_Z w Q)
  refine go_iload_n dX11_countShared_4 3 rfl ?_
  refine go_istore dX11_countShared_5 (by decide) rfl ?_
  show Go w 0 0 0 mtX11_countShared 7 [(4, .int a1), (3, .int a0), (2, .int 0), (0, .int a0), (1, .int a1)] [] (go_mk tx μ) (go_Z w Q)
  obtain ⟨ρ1, hρ1, h⟩ := go_bind h
  refine go_pick [2, 1, 0] rfl ?_
  refine go_lp (G := ggX11_countShared_7 w tx Q μ a0 a1 ) (E := eeX11_countShared_7 w tx Q μ a0 a1 ) (fun s out h hK => lqX11_countShared_7 w tx Q μ a0 a1   s.1 s.2.1 s.2.2 out h hK) go_fuel (0, a0, a1) ρ1 hρ1 ?_
  cases h
  exact hK
theorem ctX11_countShared {w : go_Wd} {tx : Nat} {μ : PM} {a0 : Int32} {a1 : Int32} {r : Int32}  (h : fX11_countShared a0 a1 = some r) : Ct w 0 0 0 mtX11_countShared [.int a0, .int a1] (go_mk tx μ) (fun r' M' => r' = some (.int r) ∧ M' = go_mk tx μ) :=
  go_entry rfl (by decide) (Nat.le_of_ble_eq_true rfl) (cmX11_countShared w tx _ μ a0 a1 _ h ⟨rfl, rfl⟩)
def fX11_rhyme (μ : PM) (a0 : Int32) (a1 : Int32) : Option (Int32) :=
  (if (fX11_isName μ a0) = 0 then some ((-1)) else (if (fX11_isName μ a1) = 0 then some ((-1)) else go_chk a0 6 <| go_chk a1 6 <| (fX11_countShared (μ.1 2 a0.toNatClampNeg) (μ.1 2 a1.toNatClampNeg)).bind fun q3 => some (q3)))
set_option maxRecDepth 20000 in
set_option maxHeartbeats 4000000 in
theorem cmX11_rhyme (w : go_Wd) (tx : Nat) (Q : Option Value → go_M → Prop) (μ : PM) (a0 : Int32) (a1 : Int32) (out : Int32) (h : fX11_rhyme μ a0 a1 = some out) (hK : Q (some (.int out)) (go_mk tx μ)) : Go w 1 0 0 mtX11_rhyme 0 [(0, .ref 0), (1, .int a0), (2, .int a1)] [] (go_mk tx μ) (go_Z w Q) := by
  unfold fX11_rhyme at h
  refine go_aload_n dX11_rhyme_0 0 rfl ?_
  refine go_iload_n dX11_rhyme_1 1 rfl ?_
  refine pp_callV (as := [.int a0]) (st := []) (rv := (some (.int (fX11_isName μ a0)))) (μ1 := μ) (st1 := [.int (fX11_isName μ a0)]) dX11_rhyme_2 ll_X11_240 sh_0 (by decide) rfl (ctX11_isName  rfl) rfl (Nat.le_of_ble_eq_true rfl) (Nat.le_of_ble_eq_true rfl) (go_Z_up w _) rfl rfl ?_
  refine go_if_eq 16 dX11_rhyme_5 (by decide) (fun hc => ?_) (fun hc => ?_)
  · have h := go_ifp hc h
    refine go_iconst (v := (-1)) dX11_rhyme_16 (by decide) ?_
    cases h
    exact go_iret dX11_rhyme_17 rfl hK
  · have h := go_ifn hc h
    refine go_aload_n dX11_rhyme_8 0 rfl ?_
    refine go_iload_n dX11_rhyme_9 2 rfl ?_
    refine pp_callV (as := [.int a1]) (st := []) (rv := (some (.int (fX11_isName μ a1)))) (μ1 := μ) (st1 := [.int (fX11_isName μ a1)]) dX11_rhyme_10 ll_X11_240 sh_0 (by decide) rfl (ctX11_isName  rfl) rfl (Nat.le_of_ble_eq_true rfl) (Nat.le_of_ble_eq_true rfl) (go_Z_up w _) rfl rfl ?_
    refine go_if_ne 18 dX11_rhyme_13 (by decide) (fun hc => ?_) (fun hc => ?_)
    · have h := go_ifn hc h
      refine go_aload_n dX11_rhyme_18 0 rfl ?_
      refine pp_getR dX11_rhyme_19 ff_X11_10 (Or.inl ⟨_, rfl⟩) sh_0 rf_0_0 ?_
      refine pp_getR dX11_rhyme_22 ff_X11_109 (Or.inr ⟨_, rfl⟩) go_isV_1.1 rf_1_0 ?_
      refine go_iload_n dX11_rhyme_25 1 rfl ?_
      obtain ⟨hz1, h⟩ := go_chk_e h
      refine pp_ild dX11_rhyme_26 sh_2 hz1 ?_
      refine go_aload_n dX11_rhyme_27 0 rfl ?_
      refine pp_getR dX11_rhyme_28 ff_X11_10 (Or.inl ⟨_, rfl⟩) sh_0 rf_0_0 ?_
      refine pp_getR dX11_rhyme_31 ff_X11_109 (Or.inr ⟨_, rfl⟩) go_isV_1.1 rf_1_0 ?_
      refine go_iload_n dX11_rhyme_34 2 rfl ?_
      obtain ⟨hz2, h⟩ := go_chk_e h
      refine pp_ild dX11_rhyme_35 sh_2 hz2 ?_
      obtain ⟨q3, hq3, h⟩ := go_bind h
      refine pp_callS (as := [.int (μ.1 2 a0.toNatClampNeg), .int (μ.1 2 a1.toNatClampNeg)]) (st := []) (rv := (some (.int q3))) (μ1 := μ) (st1 := [.int q3]) dX11_rhyme_36 ll_X11_360 (ctX11_countShared  hq3) rfl (Nat.le_of_ble_eq_true rfl) (Nat.le_of_ble_eq_true rfl) (go_Z_up w _) rfl rfl ?_
      cases h
      exact go_iret dX11_rhyme_39 rfl hK
    · have h := go_ifp hc h
      refine go_iconst (v := (-1)) dX11_rhyme_16 (by decide) ?_
      cases h
      exact go_iret dX11_rhyme_17 rfl hK
theorem ctX11_rhyme {w : go_Wd} {tx : Nat} {μ : PM} {a0 : Int32} {a1 : Int32} {r : Int32}  (h : fX11_rhyme μ a0 a1 = some r) : Ct w 1 0 0 mtX11_rhyme [.ref 0, .int a0, .int a1] (go_mk tx μ) (fun r' M' => r' = some (.int r) ∧ M' = go_mk tx μ) :=
  go_entry rfl (by decide) (Nat.le_of_ble_eq_true rfl) (cmX11_rhyme w tx _ μ a0 a1 _ h ⟨rfl, rfl⟩)
def jjX11_kindred_68_17 (μ : PM) (a0 : Int32) (v2 : Int32) (v3 : Int32) (v4 : Int32) (s0 : Int32) : Option ((Int32 × Int32 × Int32) ⊕ (Int32)) :=
  (if s0 ≤ v3 then some (.inl (v2, v3, (v4 + 1))) else some (.inl (v4, s0, (v4 + 1))))
def lbX11_kindred_17 (μ : PM) (a0 : Int32)  (v2 : Int32) (v3 : Int32) (v4 : Int32) : Option ((Int32 × Int32 × Int32) ⊕ (Int32)) :=
  (if (μ.1 12 5) ≤ v4 then some (.inr (v2)) else (if 6 ≤ v4 then some (.inr (v2)) else (if v4 = a0 then jjX11_kindred_68_17 μ a0 v2 v3 v4 0 else go_chk a0 6 <| go_chk v4 6 <| (fX11_countShared (μ.1 2 a0.toNatClampNeg) (μ.1 2 v4.toNatClampNeg)).bind fun q3 => jjX11_kindred_68_17 μ a0 v2 v3 v4 q3)))
def fX11_kindred (μ : PM) (a0 : Int32) : Option (Int32) :=
  (if (fX11_isName μ a0) = 0 then some ((-1)) else ((lp (fun s => lbX11_kindred_17 μ a0 s.1 s.2.1 s.2.2) go_fuel ((-1), 0, 0)).bind fun ρ4 => some ρ4))
def ggX11_kindred_17 (w : go_Wd) (tx : Nat) (Q : Option Value → go_M → Prop) (μ : PM) (a0 : Int32)  (s : Int32 × Int32 × Int32) : Prop := Go w 1 0 0 mtX11_kindred 17 [(0, .ref 0), (1, .int a0), (2, .int s.1), (3, .int s.2.1), (4, .int s.2.2)] [] (go_mk tx μ) (go_Z w Q)
def eeX11_kindred_17 (w : go_Wd) (tx : Nat) (Q : Option Value → go_M → Prop) (μ : PM) (a0 : Int32)  (y : Int32) : Prop := Q (some (.int y)) (go_mk tx μ)
set_option maxRecDepth 20000 in
set_option maxHeartbeats 4000000 in
theorem jqX11_kindred_68_17 (w : go_Wd) (tx : Nat) (Q : Option Value → go_M → Prop) (μ : PM) (a0 : Int32) (v2 : Int32) (v3 : Int32) (v4 : Int32)  (s0 : Int32)  (out : (Int32 × Int32 × Int32) ⊕ (Int32)) (h : jjX11_kindred_68_17 μ a0 v2 v3 v4 s0 = some out) (hK : go_out (ggX11_kindred_17 w tx Q μ a0 ) (eeX11_kindred_17 w tx Q μ a0 ) out) : Go w 1 0 0 mtX11_kindred 68 [(0, .ref 0), (1, .int a0), (2, .int v2), (3, .int v3), (4, .int v4)] [.int s0] (go_mk tx μ) (go_Z w Q) := by
  unfold jjX11_kindred_68_17 at h
  refine go_istore dX11_kindred_68 (by decide) rfl ?_
  show Go w 1 0 0 mtX11_kindred 70 [(5, .int s0), (0, .ref 0), (1, .int a0), (2, .int v2), (3, .int v3), (4, .int v4)] [] (go_mk tx μ) (go_Z w Q)
  refine go_iload dX11_kindred_70 0 rfl ?_
  refine go_iload_n dX11_kindred_72 4 rfl ?_
  refine go_icmp_le 82 dX11_kindred_73 (by decide) (fun hc => ?_) (fun hc => ?_)
  · have h := go_ifp hc h
    refine go_iinc (v := (v4 + 1)) dX11_kindred_82 5 rfl rfl (by decide) rfl ?_
    show Go w 1 0 0 mtX11_kindred 85 [(4, .int (v4 + 1)), (5, .int s0), (0, .ref 0), (1, .int a0), (2, .int v2), (3, .int v3)] [] (go_mk tx μ) (go_Z w Q)
    refine go_goto 17 dX11_kindred_85 (by decide) ?_
    cases h
    have hK : Go w 1 0 0 mtX11_kindred 17 [(0, .ref 0), (1, .int a0), (2, .int v2), (3, .int v3), (4, .int (v4 + 1))] [] (go_mk tx μ) (go_Z w Q) := hK
    exact go_pick [2, 3, 4, 5, 0] rfl hK
  · have h := go_ifn hc h
    refine go_iload dX11_kindred_76 0 rfl ?_
    refine go_istore_n dX11_kindred_78 (by decide) rfl ?_
    show Go w 1 0 0 mtX11_kindred 79 [(3, .int s0), (5, .int s0), (0, .ref 0), (1, .int a0), (2, .int v2), (4, .int v4)] [] (go_mk tx μ) (go_Z w Q)
    refine go_iload dX11_kindred_79 5 rfl ?_
    refine go_istore_n dX11_kindred_81 (by decide) rfl ?_
    show Go w 1 0 0 mtX11_kindred 82 [(2, .int v4), (3, .int s0), (5, .int s0), (0, .ref 0), (1, .int a0), (4, .int v4)] [] (go_mk tx μ) (go_Z w Q)
    refine go_iinc (v := (v4 + 1)) dX11_kindred_82 5 rfl rfl (by decide) rfl ?_
    show Go w 1 0 0 mtX11_kindred 85 [(4, .int (v4 + 1)), (2, .int v4), (3, .int s0), (5, .int s0), (0, .ref 0), (1, .int a0)] [] (go_mk tx μ) (go_Z w Q)
    refine go_goto 17 dX11_kindred_85 (by decide) ?_
    cases h
    have hK : Go w 1 0 0 mtX11_kindred 17 [(0, .ref 0), (1, .int a0), (2, .int v4), (3, .int s0), (4, .int (v4 + 1))] [] (go_mk tx μ) (go_Z w Q) := hK
    exact go_pick [4, 5, 1, 2, 0] rfl hK
set_option maxRecDepth 20000 in
set_option maxHeartbeats 4000000 in
theorem lqX11_kindred_17 (w : go_Wd) (tx : Nat) (Q : Option Value → go_M → Prop) (μ : PM) (a0 : Int32)   (v2 : Int32) (v3 : Int32) (v4 : Int32) (out : (Int32 × Int32 × Int32) ⊕ (Int32)) (h : lbX11_kindred_17 μ a0  v2 v3 v4 = some out) (hK : go_out (ggX11_kindred_17 w tx Q μ a0 ) (eeX11_kindred_17 w tx Q μ a0 ) out) : ggX11_kindred_17 w tx Q μ a0  (v2, v3, v4) := by
  unfold lbX11_kindred_17 at h
  show Go w 1 0 0 mtX11_kindred 17 [(0, .ref 0), (1, .int a0), (2, .int v2), (3, .int v3), (4, .int v4)] [] (go_mk tx μ) (go_Z w Q)
  refine go_iload dX11_kindred_17 4 rfl ?_
  refine go_aload_n dX11_kindred_19 0 rfl ?_
  refine pp_getR dX11_kindred_20 ff_X11_20 (Or.inl ⟨_, rfl⟩) sh_0 rf_0_1 ?_
  refine pp_getI dX11_kindred_23 ff_X11_106 (by decide) go_isW_12.1 ?_
  refine go_icmp_ge 88 dX11_kindred_26 (by decide) (fun hc => ?_) (fun hc => ?_)
  · have h := go_ifp hc h
    refine go_iload_n dX11_kindred_88 2 rfl ?_
    cases h
    exact go_iret dX11_kindred_89 rfl hK
  · have h := go_ifn hc h
    refine go_iload dX11_kindred_29 4 rfl ?_
    refine go_bipush (v := 6) dX11_kindred_31 (by decide) ?_
    refine go_icmp_ge 88 dX11_kindred_33 (by decide) (fun hc => ?_) (fun hc => ?_)
    · have h := go_ifp hc h
      refine go_iload_n dX11_kindred_88 2 rfl ?_
      cases h
      exact go_iret dX11_kindred_89 rfl hK
    · have h := go_ifn hc h
      refine go_iload dX11_kindred_36 4 rfl ?_
      refine go_iload_n dX11_kindred_38 1 rfl ?_
      refine go_icmp_ne 46 dX11_kindred_39 (by decide) (fun hc => ?_) (fun hc => ?_)
      · have h := go_ifn hc h
        refine go_aload_n dX11_kindred_46 0 rfl ?_
        refine pp_getR dX11_kindred_47 ff_X11_10 (Or.inl ⟨_, rfl⟩) sh_0 rf_0_0 ?_
        refine pp_getR dX11_kindred_50 ff_X11_109 (Or.inr ⟨_, rfl⟩) go_isV_1.1 rf_1_0 ?_
        refine go_iload_n dX11_kindred_53 1 rfl ?_
        obtain ⟨hz1, h⟩ := go_chk_e h
        refine pp_ild dX11_kindred_54 sh_2 hz1 ?_
        refine go_aload_n dX11_kindred_55 0 rfl ?_
        refine pp_getR dX11_kindred_56 ff_X11_10 (Or.inl ⟨_, rfl⟩) sh_0 rf_0_0 ?_
        refine pp_getR dX11_kindred_59 ff_X11_109 (Or.inr ⟨_, rfl⟩) go_isV_1.1 rf_1_0 ?_
        refine go_iload dX11_kindred_62 4 rfl ?_
        obtain ⟨hz2, h⟩ := go_chk_e h
        refine pp_ild dX11_kindred_64 sh_2 hz2 ?_
        obtain ⟨q3, hq3, h⟩ := go_bind h
        refine pp_callS (as := [.int (μ.1 2 a0.toNatClampNeg), .int (μ.1 2 v4.toNatClampNeg)]) (st := []) (rv := (some (.int q3))) (μ1 := μ) (st1 := [.int q3]) dX11_kindred_65 ll_X11_360 (ctX11_countShared  hq3) rfl (Nat.le_of_ble_eq_true rfl) (Nat.le_of_ble_eq_true rfl) (go_Z_up w _) rfl rfl ?_
        refine go_pick [0, 1, 2, 3, 4] rfl ?_
        exact jqX11_kindred_68_17 w tx Q μ a0 v2 v3 v4  q3  _ h hK
      · have h := go_ifp hc h
        refine go_iconst (v := 0) dX11_kindred_42 (by decide) ?_
        refine go_goto 68 dX11_kindred_43 (by decide) ?_
        refine go_pick [0, 1, 2, 3, 4] rfl ?_
        exact jqX11_kindred_68_17 w tx Q μ a0 v2 v3 v4  0  _ h hK
set_option maxRecDepth 20000 in
set_option maxHeartbeats 4000000 in
theorem cmX11_kindred (w : go_Wd) (tx : Nat) (Q : Option Value → go_M → Prop) (μ : PM) (a0 : Int32) (out : Int32) (h : fX11_kindred μ a0 = some out) (hK : Q (some (.int out)) (go_mk tx μ)) : Go w 1 0 0 mtX11_kindred 0 [(0, .ref 0), (1, .int a0)] [] (go_mk tx μ) (go_Z w Q) := by
  unfold fX11_kindred at h
  refine go_aload_n dX11_kindred_0 0 rfl ?_
  refine go_iload_n dX11_kindred_1 1 rfl ?_
  refine pp_callV (as := [.int a0]) (st := []) (rv := (some (.int (fX11_isName μ a0)))) (μ1 := μ) (st1 := [.int (fX11_isName μ a0)]) dX11_kindred_2 ll_X11_240 sh_0 (by decide) rfl (ctX11_isName  rfl) rfl (Nat.le_of_ble_eq_true rfl) (Nat.le_of_ble_eq_true rfl) (go_Z_up w _) rfl rfl ?_
  refine go_if_ne 10 dX11_kindred_5 (by decide) (fun hc => ?_) (fun hc => ?_)
  · have h := go_ifn hc h
    refine go_iconst (v := (-1)) dX11_kindred_10 (by decide) ?_
    refine go_istore_n dX11_kindred_11 (by decide) rfl ?_
    show Go w 1 0 0 mtX11_kindred 12 [(2, .int (-1)), (0, .ref 0), (1, .int a0)] [] (go_mk tx μ) (go_Z w Q)
    refine go_iconst (v := 0) dX11_kindred_12 (by decide) ?_
    refine go_istore_n dX11_kindred_13 (by decide) rfl ?_
    show Go w 1 0 0 mtX11_kindred 14 [(3, .int 0), (2, .int (-1)), (0, .ref 0), (1, .int a0)] [] (go_mk tx μ) (go_Z w Q)
    refine go_iconst (v := 0) dX11_kindred_14 (by decide) ?_
    refine go_istore dX11_kindred_15 (by decide) rfl ?_
    show Go w 1 0 0 mtX11_kindred 17 [(4, .int 0), (3, .int 0), (2, .int (-1)), (0, .ref 0), (1, .int a0)] [] (go_mk tx μ) (go_Z w Q)
    obtain ⟨ρ4, hρ4, h⟩ := go_bind h
    refine go_pick [3, 4, 2, 1, 0] rfl ?_
    refine go_lp (G := ggX11_kindred_17 w tx Q μ a0 ) (E := eeX11_kindred_17 w tx Q μ a0 ) (fun s out h hK => lqX11_kindred_17 w tx Q μ a0   s.1 s.2.1 s.2.2 out h hK) go_fuel ((-1), 0, 0) ρ4 hρ4 ?_
    cases h
    exact hK
  · have h := go_ifp hc h
    refine go_iconst (v := (-1)) dX11_kindred_8 (by decide) ?_
    cases h
    exact go_iret dX11_kindred_9 rfl hK
theorem ctX11_kindred {w : go_Wd} {tx : Nat} {μ : PM} {a0 : Int32} {r : Int32}  (h : fX11_kindred μ a0 = some r) : Ct w 1 0 0 mtX11_kindred [.ref 0, .int a0] (go_mk tx μ) (fun r' M' => r' = some (.int r) ∧ M' = go_mk tx μ) :=
  go_entry rfl (by decide) (Nat.le_of_ble_eq_true rfl) (cmX11_kindred w tx _ μ a0 _ h ⟨rfl, rfl⟩)
def fX11_quota (μ : PM) (a0 : Int32) : Int32 × PM :=
  (if a0 < 1 then (0, μ) else (if a0 ≤ 99 then go_let (pm_wi μ 1 15 a0) fun μ1 => (1, μ1) else (0, μ)))
set_option maxRecDepth 20000 in
set_option maxHeartbeats 4000000 in
theorem cmX11_quota (w : go_Wd) (tx : Nat) (Q : Option Value → go_M → Prop) (μ : PM) (a0 : Int32) (out : Int32 × PM) (h : fX11_quota μ a0 = out) (hK : Q (some (.int out.1)) (go_mk tx out.2)) : Go w 0 0 0 mtX11_quota 0 [(0, .ref 0), (1, .int a0)] [] (go_mk tx μ) (go_Z w Q) := by
  unfold fX11_quota at h
  refine go_iload_n dX11_quota_0 1 rfl ?_
  refine go_iconst (v := 1) dX11_quota_1 (by decide) ?_
  refine go_icmp_lt 11 dX11_quota_2 (by decide) (fun hc => ?_) (fun hc => ?_)
  · have h := go_ifp hc h
    refine go_iconst (v := 0) dX11_quota_11 (by decide) ?_
    subst h
    exact go_zret dX11_quota_12 rfl (Or.inl rfl) hK
  · have h := go_ifn hc h
    refine go_iload_n dX11_quota_5 1 rfl ?_
    refine go_bipush (v := 99) dX11_quota_6 (by decide) ?_
    refine go_icmp_le 13 dX11_quota_8 (by decide) (fun hc => ?_) (fun hc => ?_)
    · have h := go_ifp hc h
      refine go_aload_n dX11_quota_13 0 rfl ?_
      refine pp_getR dX11_quota_14 ff_X11_10 (Or.inl ⟨_, rfl⟩) sh_0 rf_0_0 ?_
      refine go_iload_n dX11_quota_17 1 rfl ?_
      obtain ⟨μ1, hμ1, h⟩ := go_let_e h
      refine pp_putI dX11_quota_18 ff_X11_363 (Or.inl rfl) go_isV_1.1 hμ1 ?_
      refine go_iconst (v := 1) dX11_quota_21 (by decide) ?_
      subst h
      exact go_zret dX11_quota_22 rfl (Or.inr rfl) hK
    · have h := go_ifn hc h
      refine go_iconst (v := 0) dX11_quota_11 (by decide) ?_
      subst h
      exact go_zret dX11_quota_12 rfl (Or.inl rfl) hK
theorem ctX11_quota {w : go_Wd} {tx : Nat} {μ : PM} {a0 : Int32} {r : Int32} {μ1 : PM}  (h : fX11_quota μ a0 = (r, μ1)) : Ct w 0 0 0 mtX11_quota [.ref 0, .int a0] (go_mk tx μ) (fun r' M' => r' = some (.int r) ∧ M' = go_mk tx μ1) :=
  go_entry rfl (by decide) (Nat.le_of_ble_eq_true rfl) (cmX11_quota w tx _ μ a0 _ h ⟨rfl, rfl⟩)
def fX11_power (μ : PM) (a0 : Int32) (a1 : Int32) : Option (Int32) :=
  (if (fX11_isFamily μ a0) = 0 then some ((-1)) else (if (μ.1 12 6) < 0 then some ((-1)) else (if (μ.1 12 6) < 6 then (fX3_countPivots μ a0).bind fun q1 => go_chk (μ.1 12 6) 6 <| go_let ((go_fc (μ.1 12 6))) fun x3 => (fX11_greatestShared q1.toInt64 x3.toInt64).bind fun q4 => (if (lg_cmp q4 0) = 0 then some ((-1)) else (if a1 = 0 then go_nzl q4 <| some (((q1.toInt64 / q4) : Int64).toInt32) else go_nzl q4 <| some (((x3.toInt64 / q4) : Int64).toInt32))) else some ((-1)))))
set_option maxRecDepth 20000 in
set_option maxHeartbeats 4000000 in
theorem cmX11_power (w : go_Wd) (tx : Nat) (Q : Option Value → go_M → Prop) (μ : PM) (a0 : Int32) (a1 : Int32) (out : Int32) (h : fX11_power μ a0 a1 = some out) (hK : Q (some (.int out)) (go_mk tx μ)) : Go w 4 0 0 mtX11_power 0 [(0, .ref 0), (1, .int a0), (2, .int a1)] [] (go_mk tx μ) (go_Z w Q) := by
  unfold fX11_power at h
  refine go_aload_n dX11_power_0 0 rfl ?_
  refine pp_getR dX11_power_1 ff_X11_20 (Or.inl ⟨_, rfl⟩) sh_0 rf_0_1 ?_
  refine pp_getI dX11_power_4 ff_X11_121 (by decide) go_isW_12.1 ?_
  refine go_istore_n dX11_power_7 (by decide) rfl ?_
  show Go w 4 0 0 mtX11_power 8 [(3, .int (μ.1 12 6)), (0, .ref 0), (1, .int a0), (2, .int a1)] [] (go_mk tx μ) (go_Z w Q)
  refine go_aload_n dX11_power_8 1 rfl ?_
  refine go_iload_n dX11_power_9 2 rfl ?_
  refine pp_callV (as := [.int a0]) (st := []) (rv := (some (.int (fX11_isFamily μ a0)))) (μ1 := μ) (st1 := [.int (fX11_isFamily μ a0)]) dX11_power_10 ll_X11_192 sh_0 (by decide) rfl (ctX11_isFamily  rfl) rfl (Nat.le_of_ble_eq_true rfl) (Nat.le_of_ble_eq_true rfl) (go_Z_up w _) rfl rfl ?_
  refine go_if_eq 28 dX11_power_13 (by decide) (fun hc => ?_) (fun hc => ?_)
  · have h := go_ifp hc h
    refine go_iconst (v := (-1)) dX11_power_28 (by decide) ?_
    cases h
    exact go_iret dX11_power_29 rfl hK
  · have h := go_ifn hc h
    refine go_iload_n dX11_power_16 0 rfl ?_
    refine go_if_lt 28 dX11_power_17 (by decide) (fun hc => ?_) (fun hc => ?_)
    · have h := go_ifp hc h
      refine go_iconst (v := (-1)) dX11_power_28 (by decide) ?_
      cases h
      exact go_iret dX11_power_29 rfl hK
    · have h := go_ifn hc h
      refine go_iload_n dX11_power_20 0 rfl ?_
      refine go_getF dX11_power_21 fx_X11_366 ?_
      refine go_lenF dX11_power_24 ?_
      refine go_icmp_lt 30 dX11_power_25 (by decide) (fun hc => ?_) (fun hc => ?_)
      · have h := go_ifp hc h
        refine go_aload_n dX11_power_30 1 rfl ?_
        refine pp_getR dX11_power_31 ff_X11_85 (Or.inl ⟨_, rfl⟩) sh_0 rf_0_11 ?_
        refine go_iload_n dX11_power_34 2 rfl ?_
        obtain ⟨q1, hq1, h⟩ := go_bind h
        refine pp_callV (as := [.int a0]) (st := []) (rv := (some (.int q1))) (μ1 := μ) (st1 := [.int q1]) dX11_power_35 ll_X11_369 sh_398 (by decide) rfl (ctX3_countPivots  hq1) rfl (Nat.le_of_ble_eq_true rfl) (Nat.le_of_ble_eq_true rfl) (go_Z_up w _) rfl rfl ?_
        refine go_istore dX11_power_38 (by decide) rfl ?_
        show Go w 4 0 0 mtX11_power 40 [(4, .int q1), (3, .int (μ.1 12 6)), (0, .ref 0), (1, .int a0), (2, .int a1)] [] (go_mk tx μ) (go_Z w Q)
        refine go_getF dX11_power_40 fx_X11_366 ?_
        refine go_iload_n dX11_power_43 1 rfl ?_
        obtain ⟨hz2, h⟩ := go_chk_e h
        refine go_ldF (x := (go_fc (μ.1 12 6))) dX11_power_44 hz2 rfl ?_
        obtain ⟨x3, hx3, h⟩ := go_let_e h
        refine go_top hx3 ?_
        refine go_istore dX11_power_45 (by decide) rfl ?_
        show Go w 4 0 0 mtX11_power 47 [(5, .int x3), (4, .int q1), (3, .int (μ.1 12 6)), (0, .ref 0), (1, .int a0), (2, .int a1)] [] (go_mk tx μ) (go_Z w Q)
        refine go_iload dX11_power_47 1 rfl ?_
        refine go_i2l dX11_power_49 ?_
        refine go_iload dX11_power_50 0 rfl ?_
        refine go_i2l dX11_power_52 ?_
        obtain ⟨q4, hq4, h⟩ := go_bind h
        refine pp_callS (as := [.long q1.toInt64, .long x3.toInt64]) (st := []) (rv := (some (.long q4))) (μ1 := μ) (st1 := [.long q4]) dX11_power_53 ll_X11_340 (ctX11_greatestShared  hq4) rfl (Nat.le_of_ble_eq_true rfl) (Nat.le_of_ble_eq_true rfl) (go_Z_up w _) rfl rfl ?_
        refine go_lstore dX11_power_56 (by decide) rfl ?_
        show Go w 4 0 0 mtX11_power 58 [(6, .long q4), (5, .int x3), (4, .int q1), (3, .int (μ.1 12 6)), (0, .ref 0), (1, .int a0), (2, .int a1)] [] (go_mk tx μ) (go_Z w Q)
        refine go_lload dX11_power_58 0 rfl ?_
        refine go_lconst (v := 0) dX11_power_60 (by decide) ?_
        refine go_lcmp dX11_power_61 ?_
        refine go_if_ne 67 dX11_power_62 (by decide) (fun hc => ?_) (fun hc => ?_)
        · have h := go_ifn hc h
          refine go_iload_n dX11_power_67 6 rfl ?_
          refine go_if_eq 76 dX11_power_68 (by decide) (fun hc => ?_) (fun hc => ?_)
          · have h := go_ifp hc h
            refine go_iload dX11_power_76 2 rfl ?_
            refine go_i2l dX11_power_78 ?_
            refine go_lload dX11_power_79 0 rfl ?_
            obtain ⟨hz5, h⟩ := go_nzl_e h
            refine go_ldiv dX11_power_81 hz5 ?_
            refine go_l2i dX11_power_82 ?_
            cases h
            exact go_iret dX11_power_83 rfl hK
          · have h := go_ifn hc h
            refine go_iload dX11_power_71 1 rfl ?_
            refine go_goto 78 dX11_power_73 (by decide) ?_
            refine go_i2l dX11_power_78 ?_
            refine go_lload dX11_power_79 0 rfl ?_
            obtain ⟨hz6, h⟩ := go_nzl_e h
            refine go_ldiv dX11_power_81 hz6 ?_
            refine go_l2i dX11_power_82 ?_
            cases h
            exact go_iret dX11_power_83 rfl hK
        · have h := go_ifp hc h
          refine go_iconst (v := (-1)) dX11_power_65 (by decide) ?_
          cases h
          exact go_iret dX11_power_66 rfl hK
      · have h := go_ifn hc h
        refine go_iconst (v := (-1)) dX11_power_28 (by decide) ?_
        cases h
        exact go_iret dX11_power_29 rfl hK
theorem ctX11_power {w : go_Wd} {tx : Nat} {μ : PM} {a0 : Int32} {a1 : Int32} {r : Int32}  (h : fX11_power μ a0 a1 = some r) : Ct w 4 0 0 mtX11_power [.ref 0, .int a0, .int a1] (go_mk tx μ) (fun r' M' => r' = some (.int r) ∧ M' = go_mk tx μ) :=
  go_entry rfl (by decide) (Nat.le_of_ble_eq_true rfl) (cmX11_power w tx _ μ a0 a1 _ h ⟨rfl, rfl⟩)
def lbX11_dummies_4 (μ : PM)   (v1 : Int32) (v2 : Int32) : Option ((Int32 × Int32) ⊕ (Int32)) :=
  (if (μ.1 12 6) ≤ v2 then some (.inr (v1)) else (fX3_countPivots μ v2).bind fun q1 => (if q1 = 0 then go_let ((v1 ||| ((1 : Int32) <<< (v2 &&& 31)))) fun x2 => some (.inl (x2, (v2 + 1))) else some (.inl (v1, (v2 + 1)))))
def fX11_dummies (μ : PM)  : Option (Int32) :=
  ((lp (fun s => lbX11_dummies_4 μ s.1 s.2) go_fuel (0, 0)).bind fun ρ3 => some ρ3)
def ggX11_dummies_4 (w : go_Wd) (tx : Nat) (Q : Option Value → go_M → Prop) (μ : PM)   (s : Int32 × Int32) : Prop := Go w 4 0 0 mtX11_dummies 4 [(0, .ref 0), (1, .int s.1), (2, .int s.2)] [] (go_mk tx μ) (go_Z w Q)
def eeX11_dummies_4 (w : go_Wd) (tx : Nat) (Q : Option Value → go_M → Prop) (μ : PM)   (y : Int32) : Prop := Q (some (.int y)) (go_mk tx μ)
set_option maxRecDepth 20000 in
set_option maxHeartbeats 4000000 in
theorem lqX11_dummies_4 (w : go_Wd) (tx : Nat) (Q : Option Value → go_M → Prop) (μ : PM)    (v1 : Int32) (v2 : Int32) (out : (Int32 × Int32) ⊕ (Int32)) (h : lbX11_dummies_4 μ  v1 v2 = some out) (hK : go_out (ggX11_dummies_4 w tx Q μ  ) (eeX11_dummies_4 w tx Q μ  ) out) : ggX11_dummies_4 w tx Q μ   (v1, v2) := by
  unfold lbX11_dummies_4 at h
  show Go w 4 0 0 mtX11_dummies 4 [(0, .ref 0), (1, .int v1), (2, .int v2)] [] (go_mk tx μ) (go_Z w Q)
  refine go_iload_n dX11_dummies_4 2 rfl ?_
  refine go_aload_n dX11_dummies_5 0 rfl ?_
  refine pp_getR dX11_dummies_6 ff_X11_20 (Or.inl ⟨_, rfl⟩) sh_0 rf_0_1 ?_
  refine pp_getI dX11_dummies_9 ff_X11_121 (by decide) go_isW_12.1 ?_
  refine go_icmp_ge 38 dX11_dummies_12 (by decide) (fun hc => ?_) (fun hc => ?_)
  · have h := go_ifp hc h
    refine go_iload_n dX11_dummies_38 1 rfl ?_
    cases h
    exact go_iret dX11_dummies_39 rfl hK
  · have h := go_ifn hc h
    refine go_aload_n dX11_dummies_15 0 rfl ?_
    refine pp_getR dX11_dummies_16 ff_X11_85 (Or.inl ⟨_, rfl⟩) sh_0 rf_0_11 ?_
    refine go_iload_n dX11_dummies_19 2 rfl ?_
    obtain ⟨q1, hq1, h⟩ := go_bind h
    refine pp_callV (as := [.int v2]) (st := []) (rv := (some (.int q1))) (μ1 := μ) (st1 := [.int q1]) dX11_dummies_20 ll_X11_369 sh_398 (by decide) rfl (ctX3_countPivots  hq1) rfl (Nat.le_of_ble_eq_true rfl) (Nat.le_of_ble_eq_true rfl) (go_Z_up w _) rfl rfl ?_
    refine go_if_ne 32 dX11_dummies_23 (by decide) (fun hc => ?_) (fun hc => ?_)
    · have h := go_ifn hc h
      refine go_iinc (v := (v2 + 1)) dX11_dummies_32 2 rfl rfl (by decide) rfl ?_
      show Go w 4 0 0 mtX11_dummies 35 [(2, .int (v2 + 1)), (0, .ref 0), (1, .int v1)] [] (go_mk tx μ) (go_Z w Q)
      refine go_goto 4 dX11_dummies_35 (by decide) ?_
      cases h
      have hK : Go w 4 0 0 mtX11_dummies 4 [(0, .ref 0), (1, .int v1), (2, .int (v2 + 1))] [] (go_mk tx μ) (go_Z w Q) := hK
      exact go_pick [1, 2, 0] rfl hK
    · have h := go_ifp hc h
      refine go_iload_n dX11_dummies_26 1 rfl ?_
      refine go_iconst (v := 1) dX11_dummies_27 (by decide) ?_
      refine go_iload_n dX11_dummies_28 2 rfl ?_
      refine go_ishl dX11_dummies_29 ?_
      refine go_ior dX11_dummies_30 ?_
      obtain ⟨x2, hx2, h⟩ := go_let_e h
      refine go_top hx2 ?_
      refine go_istore_n dX11_dummies_31 (by decide) rfl ?_
      show Go w 4 0 0 mtX11_dummies 32 [(1, .int x2), (0, .ref 0), (2, .int v2)] [] (go_mk tx μ) (go_Z w Q)
      refine go_iinc (v := (v2 + 1)) dX11_dummies_32 2 rfl rfl (by decide) rfl ?_
      show Go w 4 0 0 mtX11_dummies 35 [(2, .int (v2 + 1)), (1, .int x2), (0, .ref 0)] [] (go_mk tx μ) (go_Z w Q)
      refine go_goto 4 dX11_dummies_35 (by decide) ?_
      cases h
      have hK : Go w 4 0 0 mtX11_dummies 4 [(0, .ref 0), (1, .int x2), (2, .int (v2 + 1))] [] (go_mk tx μ) (go_Z w Q) := hK
      exact go_pick [2, 1, 0] rfl hK
set_option maxRecDepth 20000 in
set_option maxHeartbeats 4000000 in
theorem cmX11_dummies (w : go_Wd) (tx : Nat) (Q : Option Value → go_M → Prop) (μ : PM)  (out : Int32) (h : fX11_dummies μ = some out) (hK : Q (some (.int out)) (go_mk tx μ)) : Go w 4 0 0 mtX11_dummies 0 [(0, .ref 0)] [] (go_mk tx μ) (go_Z w Q) := by
  unfold fX11_dummies at h
  refine go_iconst (v := 0) dX11_dummies_0 (by decide) ?_
  refine go_istore_n dX11_dummies_1 (by decide) rfl ?_
  show Go w 4 0 0 mtX11_dummies 2 [(1, .int 0), (0, .ref 0)] [] (go_mk tx μ) (go_Z w Q)
  refine go_iconst (v := 0) dX11_dummies_2 (by decide) ?_
  refine go_istore_n dX11_dummies_3 (by decide) rfl ?_
  show Go w 4 0 0 mtX11_dummies 4 [(2, .int 0), (1, .int 0), (0, .ref 0)] [] (go_mk tx μ) (go_Z w Q)
  obtain ⟨ρ3, hρ3, h⟩ := go_bind h
  refine go_pick [2, 1, 0] rfl ?_
  refine go_lp (G := ggX11_dummies_4 w tx Q μ  ) (E := eeX11_dummies_4 w tx Q μ  ) (fun s out h hK => lqX11_dummies_4 w tx Q μ    s.1 s.2 out h hK) go_fuel (0, 0) ρ3 hρ3 ?_
  cases h
  exact hK
theorem ctX11_dummies {w : go_Wd} {tx : Nat} {μ : PM}  {r : Int32}  (h : fX11_dummies μ = some r) : Ct w 4 0 0 mtX11_dummies [.ref 0] (go_mk tx μ) (fun r' M' => r' = some (.int r) ∧ M' = go_mk tx μ) :=
  go_entry rfl (by decide) (Nat.le_of_ble_eq_true rfl) (cmX11_dummies w tx _ μ  _ h ⟨rfl, rfl⟩)
def lbX11_veto_14 (μ : PM)   (v1 : Int32) (v2 : Int32) : Option ((Int32 × Int32) ⊕ (Int32)) :=
  (if ((1 : Int32) <<< ((μ.1 12 6) &&& 31)) ≤ v2 then some (.inr (v1)) else (fX3_reachesQuota μ v2).bind fun q2 => (if q2 = 0 then some (.inl (v1, (v2 + 1))) else some (.inl ((v1 &&& v2), (v2 + 1)))))
def fX11_veto (μ : PM)  : Option (Int32) :=
  go_let ((((1 : Int32) <<< ((μ.1 12 6) &&& 31)) - 1)) fun x1 => ((lp (fun s => lbX11_veto_14 μ s.1 s.2) go_fuel (x1, 0)).bind fun ρ3 => some ρ3)
def ggX11_veto_14 (w : go_Wd) (tx : Nat) (Q : Option Value → go_M → Prop) (μ : PM)   (s : Int32 × Int32) : Prop := Go w 3 0 0 mtX11_veto 14 [(0, .ref 0), (1, .int s.1), (2, .int s.2)] [] (go_mk tx μ) (go_Z w Q)
def eeX11_veto_14 (w : go_Wd) (tx : Nat) (Q : Option Value → go_M → Prop) (μ : PM)   (y : Int32) : Prop := Q (some (.int y)) (go_mk tx μ)
set_option maxRecDepth 20000 in
set_option maxHeartbeats 4000000 in
theorem lqX11_veto_14 (w : go_Wd) (tx : Nat) (Q : Option Value → go_M → Prop) (μ : PM)    (v1 : Int32) (v2 : Int32) (out : (Int32 × Int32) ⊕ (Int32)) (h : lbX11_veto_14 μ  v1 v2 = some out) (hK : go_out (ggX11_veto_14 w tx Q μ  ) (eeX11_veto_14 w tx Q μ  ) out) : ggX11_veto_14 w tx Q μ   (v1, v2) := by
  unfold lbX11_veto_14 at h
  show Go w 3 0 0 mtX11_veto 14 [(0, .ref 0), (1, .int v1), (2, .int v2)] [] (go_mk tx μ) (go_Z w Q)
  refine go_iload_n dX11_veto_14 2 rfl ?_
  refine go_iconst (v := 1) dX11_veto_15 (by decide) ?_
  refine go_aload_n dX11_veto_16 0 rfl ?_
  refine pp_getR dX11_veto_17 ff_X11_20 (Or.inl ⟨_, rfl⟩) sh_0 rf_0_1 ?_
  refine pp_getI dX11_veto_20 ff_X11_121 (by decide) go_isW_12.1 ?_
  refine go_ishl dX11_veto_23 ?_
  refine go_icmp_ge 48 dX11_veto_24 (by decide) (fun hc => ?_) (fun hc => ?_)
  · have h := go_ifp hc h
    refine go_iload_n dX11_veto_48 1 rfl ?_
    cases h
    exact go_iret dX11_veto_49 rfl hK
  · have h := go_ifn hc h
    refine go_aload_n dX11_veto_27 0 rfl ?_
    refine pp_getR dX11_veto_28 ff_X11_85 (Or.inl ⟨_, rfl⟩) sh_0 rf_0_11 ?_
    refine go_iload_n dX11_veto_31 2 rfl ?_
    obtain ⟨q2, hq2, h⟩ := go_bind h
    refine pp_callV (as := [.int v2]) (st := []) (rv := (some (.int q2))) (μ1 := μ) (st1 := [.int q2]) dX11_veto_32 ll_X11_372 sh_398 (by decide) rfl (ctX3_reachesQuota  hq2) rfl (Nat.le_of_ble_eq_true rfl) (Nat.le_of_ble_eq_true rfl) (go_Z_up w _) rfl rfl ?_
    refine go_if_eq 42 dX11_veto_35 (by decide) (fun hc => ?_) (fun hc => ?_)
    · have h := go_ifp hc h
      refine go_iinc (v := (v2 + 1)) dX11_veto_42 2 rfl rfl (by decide) rfl ?_
      show Go w 3 0 0 mtX11_veto 45 [(2, .int (v2 + 1)), (0, .ref 0), (1, .int v1)] [] (go_mk tx μ) (go_Z w Q)
      refine go_goto 14 dX11_veto_45 (by decide) ?_
      cases h
      have hK : Go w 3 0 0 mtX11_veto 14 [(0, .ref 0), (1, .int v1), (2, .int (v2 + 1))] [] (go_mk tx μ) (go_Z w Q) := hK
      exact go_pick [1, 2, 0] rfl hK
    · have h := go_ifn hc h
      refine go_iload_n dX11_veto_38 1 rfl ?_
      refine go_iload_n dX11_veto_39 2 rfl ?_
      refine go_iand dX11_veto_40 ?_
      refine go_istore_n dX11_veto_41 (by decide) rfl ?_
      show Go w 3 0 0 mtX11_veto 42 [(1, .int (v1 &&& v2)), (0, .ref 0), (2, .int v2)] [] (go_mk tx μ) (go_Z w Q)
      refine go_iinc (v := (v2 + 1)) dX11_veto_42 2 rfl rfl (by decide) rfl ?_
      show Go w 3 0 0 mtX11_veto 45 [(2, .int (v2 + 1)), (1, .int (v1 &&& v2)), (0, .ref 0)] [] (go_mk tx μ) (go_Z w Q)
      refine go_goto 14 dX11_veto_45 (by decide) ?_
      cases h
      have hK : Go w 3 0 0 mtX11_veto 14 [(0, .ref 0), (1, .int (v1 &&& v2)), (2, .int (v2 + 1))] [] (go_mk tx μ) (go_Z w Q) := hK
      exact go_pick [2, 1, 0] rfl hK
set_option maxRecDepth 20000 in
set_option maxHeartbeats 4000000 in
theorem cmX11_veto (w : go_Wd) (tx : Nat) (Q : Option Value → go_M → Prop) (μ : PM)  (out : Int32) (h : fX11_veto μ = some out) (hK : Q (some (.int out)) (go_mk tx μ)) : Go w 3 0 0 mtX11_veto 0 [(0, .ref 0)] [] (go_mk tx μ) (go_Z w Q) := by
  unfold fX11_veto at h
  refine go_iconst (v := 1) dX11_veto_0 (by decide) ?_
  refine go_aload_n dX11_veto_1 0 rfl ?_
  refine pp_getR dX11_veto_2 ff_X11_20 (Or.inl ⟨_, rfl⟩) sh_0 rf_0_1 ?_
  refine pp_getI dX11_veto_5 ff_X11_121 (by decide) go_isW_12.1 ?_
  refine go_ishl dX11_veto_8 ?_
  refine go_iconst (v := 1) dX11_veto_9 (by decide) ?_
  refine go_isub dX11_veto_10 ?_
  obtain ⟨x1, hx1, h⟩ := go_let_e h
  refine go_top hx1 ?_
  refine go_istore_n dX11_veto_11 (by decide) rfl ?_
  show Go w 3 0 0 mtX11_veto 12 [(1, .int x1), (0, .ref 0)] [] (go_mk tx μ) (go_Z w Q)
  refine go_iconst (v := 0) dX11_veto_12 (by decide) ?_
  refine go_istore_n dX11_veto_13 (by decide) rfl ?_
  show Go w 3 0 0 mtX11_veto 14 [(2, .int 0), (1, .int x1), (0, .ref 0)] [] (go_mk tx μ) (go_Z w Q)
  obtain ⟨ρ3, hρ3, h⟩ := go_bind h
  refine go_pick [2, 1, 0] rfl ?_
  refine go_lp (G := ggX11_veto_14 w tx Q μ  ) (E := eeX11_veto_14 w tx Q μ  ) (fun s out h hK => lqX11_veto_14 w tx Q μ    s.1 s.2 out h hK) go_fuel (x1, 0) ρ3 hρ3 ?_
  cases h
  exact hK
theorem ctX11_veto {w : go_Wd} {tx : Nat} {μ : PM}  {r : Int32}  (h : fX11_veto μ = some r) : Ct w 3 0 0 mtX11_veto [.ref 0] (go_mk tx μ) (fun r' M' => r' = some (.int r) ∧ M' = go_mk tx μ) :=
  go_entry rfl (by decide) (Nat.le_of_ble_eq_true rfl) (cmX11_veto w tx _ μ  _ h ⟨rfl, rfl⟩)
def lbX11_coalitions_4 (μ : PM)   (v1 : Int32) (v2 : Int32) : Option ((Int32 × Int32) ⊕ (Int32)) :=
  (if ((1 : Int32) <<< ((μ.1 12 6) &&& 31)) ≤ v2 then some (.inr (v1)) else (fX3_reachesQuota μ v2).bind fun q1 => (if q1 = 0 then some (.inl (v1, (v2 + 1))) else some (.inl ((v1 + 1), (v2 + 1)))))
def fX11_coalitions (μ : PM)  : Option (Int32) :=
  ((lp (fun s => lbX11_coalitions_4 μ s.1 s.2) go_fuel (0, 0)).bind fun ρ2 => some ρ2)
def ggX11_coalitions_4 (w : go_Wd) (tx : Nat) (Q : Option Value → go_M → Prop) (μ : PM)   (s : Int32 × Int32) : Prop := Go w 3 0 0 mtX11_coalitions 4 [(0, .ref 0), (1, .int s.1), (2, .int s.2)] [] (go_mk tx μ) (go_Z w Q)
def eeX11_coalitions_4 (w : go_Wd) (tx : Nat) (Q : Option Value → go_M → Prop) (μ : PM)   (y : Int32) : Prop := Q (some (.int y)) (go_mk tx μ)
set_option maxRecDepth 20000 in
set_option maxHeartbeats 4000000 in
theorem lqX11_coalitions_4 (w : go_Wd) (tx : Nat) (Q : Option Value → go_M → Prop) (μ : PM)    (v1 : Int32) (v2 : Int32) (out : (Int32 × Int32) ⊕ (Int32)) (h : lbX11_coalitions_4 μ  v1 v2 = some out) (hK : go_out (ggX11_coalitions_4 w tx Q μ  ) (eeX11_coalitions_4 w tx Q μ  ) out) : ggX11_coalitions_4 w tx Q μ   (v1, v2) := by
  unfold lbX11_coalitions_4 at h
  show Go w 3 0 0 mtX11_coalitions 4 [(0, .ref 0), (1, .int v1), (2, .int v2)] [] (go_mk tx μ) (go_Z w Q)
  refine go_iload_n dX11_coalitions_4 2 rfl ?_
  refine go_iconst (v := 1) dX11_coalitions_5 (by decide) ?_
  refine go_aload_n dX11_coalitions_6 0 rfl ?_
  refine pp_getR dX11_coalitions_7 ff_X11_20 (Or.inl ⟨_, rfl⟩) sh_0 rf_0_1 ?_
  refine pp_getI dX11_coalitions_10 ff_X11_121 (by decide) go_isW_12.1 ?_
  refine go_ishl dX11_coalitions_13 ?_
  refine go_icmp_ge 37 dX11_coalitions_14 (by decide) (fun hc => ?_) (fun hc => ?_)
  · have h := go_ifp hc h
    refine go_iload_n dX11_coalitions_37 1 rfl ?_
    cases h
    exact go_iret dX11_coalitions_38 rfl hK
  · have h := go_ifn hc h
    refine go_aload_n dX11_coalitions_17 0 rfl ?_
    refine pp_getR dX11_coalitions_18 ff_X11_85 (Or.inl ⟨_, rfl⟩) sh_0 rf_0_11 ?_
    refine go_iload_n dX11_coalitions_21 2 rfl ?_
    obtain ⟨q1, hq1, h⟩ := go_bind h
    refine pp_callV (as := [.int v2]) (st := []) (rv := (some (.int q1))) (μ1 := μ) (st1 := [.int q1]) dX11_coalitions_22 ll_X11_372 sh_398 (by decide) rfl (ctX3_reachesQuota  hq1) rfl (Nat.le_of_ble_eq_true rfl) (Nat.le_of_ble_eq_true rfl) (go_Z_up w _) rfl rfl ?_
    refine go_if_eq 31 dX11_coalitions_25 (by decide) (fun hc => ?_) (fun hc => ?_)
    · have h := go_ifp hc h
      refine go_iinc (v := (v2 + 1)) dX11_coalitions_31 2 rfl rfl (by decide) rfl ?_
      show Go w 3 0 0 mtX11_coalitions 34 [(2, .int (v2 + 1)), (0, .ref 0), (1, .int v1)] [] (go_mk tx μ) (go_Z w Q)
      refine go_goto 4 dX11_coalitions_34 (by decide) ?_
      cases h
      have hK : Go w 3 0 0 mtX11_coalitions 4 [(0, .ref 0), (1, .int v1), (2, .int (v2 + 1))] [] (go_mk tx μ) (go_Z w Q) := hK
      exact go_pick [1, 2, 0] rfl hK
    · have h := go_ifn hc h
      refine go_iinc (v := (v1 + 1)) dX11_coalitions_28 1 rfl rfl (by decide) rfl ?_
      show Go w 3 0 0 mtX11_coalitions 31 [(1, .int (v1 + 1)), (0, .ref 0), (2, .int v2)] [] (go_mk tx μ) (go_Z w Q)
      refine go_iinc (v := (v2 + 1)) dX11_coalitions_31 2 rfl rfl (by decide) rfl ?_
      show Go w 3 0 0 mtX11_coalitions 34 [(2, .int (v2 + 1)), (1, .int (v1 + 1)), (0, .ref 0)] [] (go_mk tx μ) (go_Z w Q)
      refine go_goto 4 dX11_coalitions_34 (by decide) ?_
      cases h
      have hK : Go w 3 0 0 mtX11_coalitions 4 [(0, .ref 0), (1, .int (v1 + 1)), (2, .int (v2 + 1))] [] (go_mk tx μ) (go_Z w Q) := hK
      exact go_pick [2, 1, 0] rfl hK
set_option maxRecDepth 20000 in
set_option maxHeartbeats 4000000 in
theorem cmX11_coalitions (w : go_Wd) (tx : Nat) (Q : Option Value → go_M → Prop) (μ : PM)  (out : Int32) (h : fX11_coalitions μ = some out) (hK : Q (some (.int out)) (go_mk tx μ)) : Go w 3 0 0 mtX11_coalitions 0 [(0, .ref 0)] [] (go_mk tx μ) (go_Z w Q) := by
  unfold fX11_coalitions at h
  refine go_iconst (v := 0) dX11_coalitions_0 (by decide) ?_
  refine go_istore_n dX11_coalitions_1 (by decide) rfl ?_
  show Go w 3 0 0 mtX11_coalitions 2 [(1, .int 0), (0, .ref 0)] [] (go_mk tx μ) (go_Z w Q)
  refine go_iconst (v := 0) dX11_coalitions_2 (by decide) ?_
  refine go_istore_n dX11_coalitions_3 (by decide) rfl ?_
  show Go w 3 0 0 mtX11_coalitions 4 [(2, .int 0), (1, .int 0), (0, .ref 0)] [] (go_mk tx μ) (go_Z w Q)
  obtain ⟨ρ2, hρ2, h⟩ := go_bind h
  refine go_pick [2, 1, 0] rfl ?_
  refine go_lp (G := ggX11_coalitions_4 w tx Q μ  ) (E := eeX11_coalitions_4 w tx Q μ  ) (fun s out h hK => lqX11_coalitions_4 w tx Q μ    s.1 s.2 out h hK) go_fuel (0, 0) ρ2 hρ2 ?_
  cases h
  exact hK
theorem ctX11_coalitions {w : go_Wd} {tx : Nat} {μ : PM}  {r : Int32}  (h : fX11_coalitions μ = some r) : Ct w 3 0 0 mtX11_coalitions [.ref 0] (go_mk tx μ) (fun r' M' => r' = some (.int r) ∧ M' = go_mk tx μ) :=
  go_entry rfl (by decide) (Nat.le_of_ble_eq_true rfl) (cmX11_coalitions w tx _ μ  _ h ⟨rfl, rfl⟩)
def fX11_said (μ : PM) (a0 : Int32) (a1 : Int32) : Option (Int32 × PM) :=
  (if a0 = (-1) then go_let (pm_wi μ 1 17 0) fun μ6 => some ((0, μ6)) else (if (fX11_isName μ a0) = 0 then some (((-2), μ)) else (if a1 < (-99) then some (((-2), μ)) else (if 99 < a1 then some (((-2), μ)) else (if (μ.1 1 17) < 0 then some (((-2), μ)) else (if (μ.1 1 17) < 8 then go_chk (μ.1 1 17) 8 <| go_let (pm_wi μ 10 ((μ.1 1 17) : Int32).toNatClampNeg a0) fun μ1 => go_chk (μ.1 1 17) 8 <| go_let (pm_wi μ1 11 ((μ.1 1 17) : Int32).toNatClampNeg a1) fun μ3 => go_let (pm_wi μ3 1 17 ((μ3.1 1 17) + 1)) fun μ5 => some (((μ5.1 1 17), μ5)) else some (((-2), μ))))))))
set_option maxRecDepth 20000 in
set_option maxHeartbeats 4000000 in
theorem cmX11_said (w : go_Wd) (tx : Nat) (Q : Option Value → go_M → Prop) (μ : PM) (a0 : Int32) (a1 : Int32) (out : Int32 × PM) (h : fX11_said μ a0 a1 = some out) (hK : Q (some (.int out.1)) (go_mk tx out.2)) : Go w 1 0 0 mtX11_said 0 [(0, .ref 0), (1, .int a0), (2, .int a1)] [] (go_mk tx μ) (go_Z w Q) := by
  unfold fX11_said at h
  refine go_iload_n dX11_said_0 1 rfl ?_
  refine go_iconst (v := (-1)) dX11_said_1 (by decide) ?_
  refine go_icmp_ne 15 dX11_said_2 (by decide) (fun hc => ?_) (fun hc => ?_)
  · have h := go_ifn hc h
    refine go_aload_n dX11_said_15 0 rfl ?_
    refine pp_getR dX11_said_16 ff_X11_10 (Or.inl ⟨_, rfl⟩) sh_0 rf_0_0 ?_
    refine pp_getI dX11_said_19 ff_X11_375 (by decide) go_isV_1.1 ?_
    refine go_istore_n dX11_said_22 (by decide) rfl ?_
    show Go w 1 0 0 mtX11_said 23 [(3, .int (μ.1 1 17)), (0, .ref 0), (1, .int a0), (2, .int a1)] [] (go_mk tx μ) (go_Z w Q)
    refine go_aload_n dX11_said_23 1 rfl ?_
    refine go_iload_n dX11_said_24 2 rfl ?_
    refine pp_callV (as := [.int a0]) (st := []) (rv := (some (.int (fX11_isName μ a0)))) (μ1 := μ) (st1 := [.int (fX11_isName μ a0)]) dX11_said_25 ll_X11_240 sh_0 (by decide) rfl (ctX11_isName  rfl) rfl (Nat.le_of_ble_eq_true rfl) (Nat.le_of_ble_eq_true rfl) (go_Z_up w _) rfl rfl ?_
    refine go_if_eq 53 dX11_said_28 (by decide) (fun hc => ?_) (fun hc => ?_)
    · have h := go_ifp hc h
      refine go_bipush (v := (-2)) dX11_said_53 (by decide) ?_
      cases h
      exact go_iret dX11_said_55 rfl hK
    · have h := go_ifn hc h
      refine go_iload_n dX11_said_31 3 rfl ?_
      refine go_bipush (v := (-99)) dX11_said_32 (by decide) ?_
      refine go_icmp_lt 53 dX11_said_34 (by decide) (fun hc => ?_) (fun hc => ?_)
      · have h := go_ifp hc h
        refine go_bipush (v := (-2)) dX11_said_53 (by decide) ?_
        cases h
        exact go_iret dX11_said_55 rfl hK
      · have h := go_ifn hc h
        refine go_iload_n dX11_said_37 3 rfl ?_
        refine go_bipush (v := 99) dX11_said_38 (by decide) ?_
        refine go_icmp_gt 53 dX11_said_40 (by decide) (fun hc => ?_) (fun hc => ?_)
        · have h := go_ifp hc h
          refine go_bipush (v := (-2)) dX11_said_53 (by decide) ?_
          cases h
          exact go_iret dX11_said_55 rfl hK
        · have h := go_ifn hc h
          refine go_iload_n dX11_said_43 0 rfl ?_
          refine go_if_lt 53 dX11_said_44 (by decide) (fun hc => ?_) (fun hc => ?_)
          · have h := go_ifp hc h
            refine go_bipush (v := (-2)) dX11_said_53 (by decide) ?_
            cases h
            exact go_iret dX11_said_55 rfl hK
          · have h := go_ifn hc h
            refine go_iload_n dX11_said_47 0 rfl ?_
            refine go_bipush (v := 8) dX11_said_48 (by decide) ?_
            refine go_icmp_lt 56 dX11_said_50 (by decide) (fun hc => ?_) (fun hc => ?_)
            · have h := go_ifp hc h
              refine go_aload_n dX11_said_56 1 rfl ?_
              refine pp_getR dX11_said_57 ff_X11_10 (Or.inl ⟨_, rfl⟩) sh_0 rf_0_0 ?_
              refine pp_getR dX11_said_60 ff_X11_378 (Or.inr ⟨_, rfl⟩) go_isV_1.1 rf_1_8 ?_
              refine go_iload_n dX11_said_63 0 rfl ?_
              refine go_iload_n dX11_said_64 2 rfl ?_
              obtain ⟨hz2, h⟩ := go_chk_e h
              obtain ⟨μ1, hμ1, h⟩ := go_let_e h
              refine pp_ist dX11_said_65 sh_10 hz2 hμ1 ?_
              refine go_aload_n dX11_said_66 1 rfl ?_
              refine pp_getR dX11_said_67 ff_X11_10 (Or.inl ⟨_, rfl⟩) sh_0 rf_0_0 ?_
              refine pp_getR dX11_said_70 ff_X11_381 (Or.inr ⟨_, rfl⟩) go_isV_1.1 rf_1_9 ?_
              refine go_iload_n dX11_said_73 0 rfl ?_
              refine go_iload_n dX11_said_74 3 rfl ?_
              obtain ⟨hz4, h⟩ := go_chk_e h
              obtain ⟨μ3, hμ3, h⟩ := go_let_e h
              refine pp_ist dX11_said_75 sh_11 hz4 hμ3 ?_
              refine go_aload_n dX11_said_76 1 rfl ?_
              refine pp_getR dX11_said_77 ff_X11_10 (Or.inl ⟨_, rfl⟩) sh_0 rf_0_0 ?_
              refine go_dup dX11_said_80 rfl ?_
              refine pp_getI dX11_said_81 ff_X11_375 (by decide) go_isV_1.1 ?_
              refine go_iconst (v := 1) dX11_said_84 (by decide) ?_
              refine go_iadd dX11_said_85 ?_
              obtain ⟨μ5, hμ5, h⟩ := go_let_e h
              refine pp_putI dX11_said_86 ff_X11_375 (Or.inl rfl) go_isV_1.1 hμ5 ?_
              refine go_aload_n dX11_said_89 1 rfl ?_
              refine pp_getR dX11_said_90 ff_X11_10 (Or.inl ⟨_, rfl⟩) sh_0 rf_0_0 ?_
              refine pp_getI dX11_said_93 ff_X11_375 (by decide) go_isV_1.1 ?_
              cases h
              exact go_iret dX11_said_96 rfl hK
            · have h := go_ifn hc h
              refine go_bipush (v := (-2)) dX11_said_53 (by decide) ?_
              cases h
              exact go_iret dX11_said_55 rfl hK
  · have h := go_ifp hc h
    refine go_aload_n dX11_said_5 0 rfl ?_
    refine pp_getR dX11_said_6 ff_X11_10 (Or.inl ⟨_, rfl⟩) sh_0 rf_0_0 ?_
    refine go_iconst (v := 0) dX11_said_9 (by decide) ?_
    obtain ⟨μ6, hμ6, h⟩ := go_let_e h
    refine pp_putI dX11_said_10 ff_X11_375 (Or.inl rfl) go_isV_1.1 hμ6 ?_
    refine go_iconst (v := 0) dX11_said_13 (by decide) ?_
    cases h
    exact go_iret dX11_said_14 rfl hK
theorem ctX11_said {w : go_Wd} {tx : Nat} {μ : PM} {a0 : Int32} {a1 : Int32} {r : Int32} {μ1 : PM}  (h : fX11_said μ a0 a1 = some (r, μ1)) : Ct w 1 0 0 mtX11_said [.ref 0, .int a0, .int a1] (go_mk tx μ) (fun r' M' => r' = some (.int r) ∧ M' = go_mk tx μ1) :=
  go_entry rfl (by decide) (Nat.le_of_ble_eq_true rfl) (cmX11_said w tx _ μ a0 a1 _ h ⟨rfl, rfl⟩)
def lbX11_fitsSaid_2 (a0 : Option Nat)  (v2 : Int32) (μ : PM) : Option ((Int32 × PM) ⊕ (Int32 × PM)) :=
  (if (μ.1 1 17) ≤ v2 then some (.inr ((1, μ))) else (if 8 ≤ v2 then some (.inr ((1, μ))) else go_chk v2 8 <| go_let ((μ.1 10 v2.toNatClampNeg)) fun x2 => (if (fX11_isName μ x2) = 0 then some (.inr ((0, μ))) else (fX2_askMelts μ a0 12 x2).bind fun q3 => go_chk v2 8 <| (if q3.1 = (q3.2.1 11 v2.toNatClampNeg) then some (.inl ((v2 + 1), q3.2)) else some (.inr ((0, q3.2)))))))
def fX11_fitsSaid (μ : PM) (a0 : Option Nat) : Option (Int32 × PM) :=
  ((lp (fun s => lbX11_fitsSaid_2 a0 s.1 s.2) go_fuel (0, μ)).bind fun ρ5 => some ρ5)
def ggX11_fitsSaid_2 (w : go_Wd) (tx : Nat) (Q : Option Value → go_M → Prop) (a0 : Option Nat)  (s : Int32 × PM) : Prop := Go w 4 0 0 mtX11_fitsSaid 2 [(0, .ref 0), (1, go_on a0), (2, .int s.1)] [] (go_mk tx s.2) (go_Z w Q)
def eeX11_fitsSaid_2 (w : go_Wd) (tx : Nat) (Q : Option Value → go_M → Prop) (a0 : Option Nat)  (y : Int32 × PM) : Prop := Q (some (.int y.1)) (go_mk tx y.2)
set_option maxRecDepth 20000 in
set_option maxHeartbeats 4000000 in
theorem lqX11_fitsSaid_2 (w : go_Wd) (tx : Nat) (Q : Option Value → go_M → Prop) (a0 : Option Nat) (hk0 : ∀ q, a0 = some q → go_isT q)   (v2 : Int32) (μ : PM) (out : (Int32 × PM) ⊕ (Int32 × PM)) (h : lbX11_fitsSaid_2 a0  v2 μ = some out) (hK : go_out (ggX11_fitsSaid_2 w tx Q a0 ) (eeX11_fitsSaid_2 w tx Q a0 ) out) : ggX11_fitsSaid_2 w tx Q a0  (v2, μ) := by
  unfold lbX11_fitsSaid_2 at h
  show Go w 4 0 0 mtX11_fitsSaid 2 [(0, .ref 0), (1, go_on a0), (2, .int v2)] [] (go_mk tx μ) (go_Z w Q)
  refine go_iload_n dX11_fitsSaid_2 2 rfl ?_
  refine go_aload_n dX11_fitsSaid_3 0 rfl ?_
  refine pp_getR dX11_fitsSaid_4 ff_X11_10 (Or.inl ⟨_, rfl⟩) sh_0 rf_0_0 ?_
  refine pp_getI dX11_fitsSaid_7 ff_X11_375 (by decide) go_isV_1.1 ?_
  refine go_icmp_ge 70 dX11_fitsSaid_10 (by decide) (fun hc => ?_) (fun hc => ?_)
  · have h := go_ifp hc h
    refine go_iconst (v := 1) dX11_fitsSaid_70 (by decide) ?_
    cases h
    exact go_zret dX11_fitsSaid_71 rfl (Or.inr rfl) hK
  · have h := go_ifn hc h
    refine go_iload_n dX11_fitsSaid_13 2 rfl ?_
    refine go_bipush (v := 8) dX11_fitsSaid_14 (by decide) ?_
    refine go_icmp_ge 70 dX11_fitsSaid_16 (by decide) (fun hc => ?_) (fun hc => ?_)
    · have h := go_ifp hc h
      refine go_iconst (v := 1) dX11_fitsSaid_70 (by decide) ?_
      cases h
      exact go_zret dX11_fitsSaid_71 rfl (Or.inr rfl) hK
    · have h := go_ifn hc h
      refine go_aload_n dX11_fitsSaid_19 0 rfl ?_
      refine pp_getR dX11_fitsSaid_20 ff_X11_10 (Or.inl ⟨_, rfl⟩) sh_0 rf_0_0 ?_
      refine pp_getR dX11_fitsSaid_23 ff_X11_378 (Or.inr ⟨_, rfl⟩) go_isV_1.1 rf_1_8 ?_
      refine go_iload_n dX11_fitsSaid_26 2 rfl ?_
      obtain ⟨hz1, h⟩ := go_chk_e h
      refine pp_ild dX11_fitsSaid_27 sh_10 hz1 ?_
      obtain ⟨x2, hx2, h⟩ := go_let_e h
      refine go_top hx2 ?_
      refine go_istore_n dX11_fitsSaid_28 (by decide) rfl ?_
      show Go w 4 0 0 mtX11_fitsSaid 29 [(3, .int x2), (0, .ref 0), (1, go_on a0), (2, .int v2)] [] (go_mk tx μ) (go_Z w Q)
      refine go_aload_n dX11_fitsSaid_29 1 rfl ?_
      refine go_iload_n dX11_fitsSaid_30 0 rfl ?_
      refine pp_callV (as := [.int x2]) (st := []) (rv := (some (.int (fX11_isName μ x2)))) (μ1 := μ) (st1 := [.int (fX11_isName μ x2)]) dX11_fitsSaid_31 ll_X11_240 sh_0 (by decide) rfl (ctX11_isName  rfl) rfl (Nat.le_of_ble_eq_true rfl) (Nat.le_of_ble_eq_true rfl) (go_Z_up w _) rfl rfl ?_
      refine go_if_eq 62 dX11_fitsSaid_34 (by decide) (fun hc => ?_) (fun hc => ?_)
      · have h := go_ifp hc h
        refine go_iconst (v := 0) dX11_fitsSaid_62 (by decide) ?_
        cases h
        exact go_zret dX11_fitsSaid_63 rfl (Or.inl rfl) hK
      · have h := go_ifn hc h
        refine go_aload_n dX11_fitsSaid_37 1 rfl ?_
        refine pp_getR dX11_fitsSaid_38 ff_X11_55 (Or.inl ⟨_, rfl⟩) sh_0 rf_0_7 ?_
        refine go_aloadO dX11_fitsSaid_41 2 rfl ?_
        refine go_aload_n dX11_fitsSaid_42 1 rfl ?_
        refine pp_getR dX11_fitsSaid_43 ff_X11_20 (Or.inl ⟨_, rfl⟩) sh_0 rf_0_1 ?_
        refine go_iload_n dX11_fitsSaid_46 0 rfl ?_
        obtain ⟨q3, hq3, h⟩ := go_bind h
        refine pp_callV (as := [go_on a0, .ref 12, .int x2]) (st := []) (rv := (some (.int q3.1))) (μ1 := q3.2) (st1 := [.int q3.1]) dX11_fitsSaid_47 ll_X11_253 sh_383 (by decide) rfl (ctX2_askMelts hk0 go_isW_12 hq3) rfl (Nat.le_of_ble_eq_true rfl) (Nat.le_of_ble_eq_true rfl) (go_Z_up w _) rfl rfl ?_
        refine go_aload_n dX11_fitsSaid_50 1 rfl ?_
        refine pp_getR dX11_fitsSaid_51 ff_X11_10 (Or.inl ⟨_, rfl⟩) sh_0 rf_0_0 ?_
        refine pp_getR dX11_fitsSaid_54 ff_X11_381 (Or.inr ⟨_, rfl⟩) go_isV_1.1 rf_1_9 ?_
        refine go_iload_n dX11_fitsSaid_57 3 rfl ?_
        obtain ⟨hz4, h⟩ := go_chk_e h
        refine pp_ild dX11_fitsSaid_58 sh_11 hz4 ?_
        refine go_icmp_eq 64 dX11_fitsSaid_59 (by decide) (fun hc => ?_) (fun hc => ?_)
        · have h := go_ifp hc h
          refine go_iinc (v := (v2 + 1)) (lv' := [(2, .int (v2 + 1)), (3, .int x2), (0, .ref 0), (1, go_on a0)]) dX11_fitsSaid_64 3 rfl rfl (by decide) (by cases a0 <;> rfl) ?_
          show Go w 4 0 0 mtX11_fitsSaid 67 [(2, .int (v2 + 1)), (3, .int x2), (0, .ref 0), (1, go_on a0)] [] (go_mk tx q3.2) (go_Z w Q)
          refine go_goto 2 dX11_fitsSaid_67 (by decide) ?_
          cases h
          have hK : Go w 4 0 0 mtX11_fitsSaid 2 [(0, .ref 0), (1, go_on a0), (2, .int (v2 + 1))] [] (go_mk tx q3.2) (go_Z w Q) := hK
          exact go_pick [2, 3, 0] rfl hK
        · have h := go_ifn hc h
          refine go_iconst (v := 0) dX11_fitsSaid_62 (by decide) ?_
          cases h
          exact go_zret dX11_fitsSaid_63 rfl (Or.inl rfl) hK
set_option maxRecDepth 20000 in
set_option maxHeartbeats 4000000 in
theorem cmX11_fitsSaid (w : go_Wd) (tx : Nat) (Q : Option Value → go_M → Prop) (μ : PM) (a0 : Option Nat) (hk0 : ∀ q, a0 = some q → go_isT q) (out : Int32 × PM) (h : fX11_fitsSaid μ a0 = some out) (hK : Q (some (.int out.1)) (go_mk tx out.2)) : Go w 4 0 0 mtX11_fitsSaid 0 [(0, .ref 0), (1, go_on a0)] [] (go_mk tx μ) (go_Z w Q) := by
  unfold fX11_fitsSaid at h
  refine go_iconst (v := 0) dX11_fitsSaid_0 (by decide) ?_
  refine go_istore_n (lv' := [(2, .int 0), (0, .ref 0), (1, go_on a0)]) dX11_fitsSaid_1 (by decide) (by cases a0 <;> rfl) ?_
  show Go w 4 0 0 mtX11_fitsSaid 2 [(2, .int 0), (0, .ref 0), (1, go_on a0)] [] (go_mk tx μ) (go_Z w Q)
  obtain ⟨ρ5, hρ5, h⟩ := go_bind h
  refine go_pick [1, 2, 0] rfl ?_
  refine go_lp (G := ggX11_fitsSaid_2 w tx Q a0 ) (E := eeX11_fitsSaid_2 w tx Q a0 ) (fun s out h hK => lqX11_fitsSaid_2 w tx Q a0 hk0   s.1 s.2 out h hK) go_fuel (0, μ) ρ5 hρ5 ?_
  cases h
  exact hK
theorem ctX11_fitsSaid {w : go_Wd} {tx : Nat} {μ : PM} {a0 : Option Nat} {r : Int32} {μ1 : PM} (hk0 : ∀ q, a0 = some q → go_isT q) (h : fX11_fitsSaid μ a0 = some (r, μ1)) : Ct w 4 0 0 mtX11_fitsSaid [.ref 0, go_on a0] (go_mk tx μ) (fun r' M' => r' = some (.int r) ∧ M' = go_mk tx μ1) :=
  go_entry2 rfl (by decide) (by cases a0 <;> exact Nat.le_of_ble_eq_true rfl) (by cases a0 <;> rfl) (cmX11_fitsSaid w tx _ μ a0 hk0 _ h ⟨rfl, rfl⟩)
def lbX11_whose_4   (v1 : Int32) (v2 : Int32) (μ : PM) : Option ((Int32 × Int32 × PM) ⊕ (Int32 × PM)) :=
  (if (μ.1 1 13) ≤ v2 then some (.inr ((v1, μ))) else (fX11_findText μ v2).bind fun q1 => (fX11_fitsSaid μ q1).bind fun q2 => (if q2.1 = 0 then some (.inl (v1, (v2 + 1), q2.2)) else go_let ((v1 ||| ((1 : Int32) <<< (v2 &&& 31)))) fun x3 => some (.inl (x3, (v2 + 1), q2.2))))
def fX11_whose (μ : PM)  : Option (Int32 × PM) :=
  ((lp (fun s => lbX11_whose_4 s.1 s.2.1 s.2.2) go_fuel (0, 0, μ)).bind fun ρ4 => some ρ4)
def ggX11_whose_4 (w : go_Wd) (tx : Nat) (Q : Option Value → go_M → Prop)   (s : Int32 × Int32 × PM) : Prop := Go w 5 0 0 mtX11_whose 4 [(0, .ref 0), (1, .int s.1), (2, .int s.2.1)] [] (go_mk tx s.2.2) (go_Z w Q)
def eeX11_whose_4 (w : go_Wd) (tx : Nat) (Q : Option Value → go_M → Prop)   (y : Int32 × PM) : Prop := Q (some (.int y.1)) (go_mk tx y.2)
set_option maxRecDepth 20000 in
set_option maxHeartbeats 4000000 in
theorem lqX11_whose_4 (w : go_Wd) (tx : Nat) (Q : Option Value → go_M → Prop)    (v1 : Int32) (v2 : Int32) (μ : PM) (out : (Int32 × Int32 × PM) ⊕ (Int32 × PM)) (h : lbX11_whose_4  v1 v2 μ = some out) (hK : go_out (ggX11_whose_4 w tx Q  ) (eeX11_whose_4 w tx Q  ) out) : ggX11_whose_4 w tx Q   (v1, v2, μ) := by
  unfold lbX11_whose_4 at h
  show Go w 5 0 0 mtX11_whose 4 [(0, .ref 0), (1, .int v1), (2, .int v2)] [] (go_mk tx μ) (go_Z w Q)
  refine go_iload_n dX11_whose_4 2 rfl ?_
  refine go_aload_n dX11_whose_5 0 rfl ?_
  refine pp_getR dX11_whose_6 ff_X11_10 (Or.inl ⟨_, rfl⟩) sh_0 rf_0_0 ?_
  refine pp_getI dX11_whose_9 ff_X11_147 (by decide) go_isV_1.1 ?_
  refine go_icmp_ge 39 dX11_whose_12 (by decide) (fun hc => ?_) (fun hc => ?_)
  · have h := go_ifp hc h
    refine go_iload_n dX11_whose_39 1 rfl ?_
    cases h
    exact go_iret dX11_whose_40 rfl hK
  · have h := go_ifn hc h
    refine go_aload_n dX11_whose_15 0 rfl ?_
    refine go_aload_n dX11_whose_16 0 rfl ?_
    refine go_iload_n dX11_whose_17 2 rfl ?_
    obtain ⟨q1, hq1, h⟩ := go_bind h
    refine pp_callV (as := [.int v2]) (st := [.ref 0]) (rv := (some (go_on q1))) (μ1 := μ) (st1 := [go_on q1, .ref 0]) dX11_whose_18 ll_X11_204 sh_0 (by decide) rfl (ctX11_findText  hq1) rfl (Nat.le_of_ble_eq_true rfl) (Nat.le_of_ble_eq_true rfl) (go_Z_up w _) rfl rfl ?_
    obtain ⟨q2, hq2, h⟩ := go_bind h
    refine pp_callV (as := [go_on q1]) (st := []) (rv := (some (.int q2.1))) (μ1 := q2.2) (st1 := [.int q2.1]) dX11_whose_21 ll_X11_384 sh_0 (by decide) rfl (ctX11_fitsSaid (opX11_findText  hq1) hq2) rfl (Nat.le_of_ble_eq_true rfl) (Nat.le_of_ble_eq_true rfl) (go_Z_up w _) rfl rfl ?_
    refine go_if_eq 33 dX11_whose_24 (by decide) (fun hc => ?_) (fun hc => ?_)
    · have h := go_ifp hc h
      refine go_iinc (v := (v2 + 1)) dX11_whose_33 2 rfl rfl (by decide) rfl ?_
      show Go w 5 0 0 mtX11_whose 36 [(2, .int (v2 + 1)), (0, .ref 0), (1, .int v1)] [] (go_mk tx q2.2) (go_Z w Q)
      refine go_goto 4 dX11_whose_36 (by decide) ?_
      cases h
      have hK : Go w 5 0 0 mtX11_whose 4 [(0, .ref 0), (1, .int v1), (2, .int (v2 + 1))] [] (go_mk tx q2.2) (go_Z w Q) := hK
      exact go_pick [1, 2, 0] rfl hK
    · have h := go_ifn hc h
      refine go_iload_n dX11_whose_27 1 rfl ?_
      refine go_iconst (v := 1) dX11_whose_28 (by decide) ?_
      refine go_iload_n dX11_whose_29 2 rfl ?_
      refine go_ishl dX11_whose_30 ?_
      refine go_ior dX11_whose_31 ?_
      obtain ⟨x3, hx3, h⟩ := go_let_e h
      refine go_top hx3 ?_
      refine go_istore_n dX11_whose_32 (by decide) rfl ?_
      show Go w 5 0 0 mtX11_whose 33 [(1, .int x3), (0, .ref 0), (2, .int v2)] [] (go_mk tx q2.2) (go_Z w Q)
      refine go_iinc (v := (v2 + 1)) dX11_whose_33 2 rfl rfl (by decide) rfl ?_
      show Go w 5 0 0 mtX11_whose 36 [(2, .int (v2 + 1)), (1, .int x3), (0, .ref 0)] [] (go_mk tx q2.2) (go_Z w Q)
      refine go_goto 4 dX11_whose_36 (by decide) ?_
      cases h
      have hK : Go w 5 0 0 mtX11_whose 4 [(0, .ref 0), (1, .int x3), (2, .int (v2 + 1))] [] (go_mk tx q2.2) (go_Z w Q) := hK
      exact go_pick [2, 1, 0] rfl hK
set_option maxRecDepth 20000 in
set_option maxHeartbeats 4000000 in
theorem cmX11_whose (w : go_Wd) (tx : Nat) (Q : Option Value → go_M → Prop) (μ : PM)  (out : Int32 × PM) (h : fX11_whose μ = some out) (hK : Q (some (.int out.1)) (go_mk tx out.2)) : Go w 5 0 0 mtX11_whose 0 [(0, .ref 0)] [] (go_mk tx μ) (go_Z w Q) := by
  unfold fX11_whose at h
  refine go_iconst (v := 0) dX11_whose_0 (by decide) ?_
  refine go_istore_n dX11_whose_1 (by decide) rfl ?_
  show Go w 5 0 0 mtX11_whose 2 [(1, .int 0), (0, .ref 0)] [] (go_mk tx μ) (go_Z w Q)
  refine go_iconst (v := 0) dX11_whose_2 (by decide) ?_
  refine go_istore_n dX11_whose_3 (by decide) rfl ?_
  show Go w 5 0 0 mtX11_whose 4 [(2, .int 0), (1, .int 0), (0, .ref 0)] [] (go_mk tx μ) (go_Z w Q)
  obtain ⟨ρ4, hρ4, h⟩ := go_bind h
  refine go_pick [2, 1, 0] rfl ?_
  refine go_lp (G := ggX11_whose_4 w tx Q  ) (E := eeX11_whose_4 w tx Q  ) (fun s out h hK => lqX11_whose_4 w tx Q    s.1 s.2.1 s.2.2 out h hK) go_fuel (0, 0, μ) ρ4 hρ4 ?_
  cases h
  exact hK
theorem ctX11_whose {w : go_Wd} {tx : Nat} {μ : PM}  {r : Int32} {μ1 : PM}  (h : fX11_whose μ = some (r, μ1)) : Ct w 5 0 0 mtX11_whose [.ref 0] (go_mk tx μ) (fun r' M' => r' = some (.int r) ∧ M' = go_mk tx μ1) :=
  go_entry rfl (by decide) (Nat.le_of_ble_eq_true rfl) (cmX11_whose w tx _ μ  _ h ⟨rfl, rfl⟩)
def lbX11_richest_6 (μ : PM)   (v1 : Int32) (v2 : Int32) (v3 : Int32) : Option ((Int32 × Int32 × Int32) ⊕ (Int32)) :=
  (if (μ.1 12 6) ≤ v3 then some (.inr (v1)) else (fX10_namesIn μ 12 (20 + v3)).bind fun q1 => go_let ((fJ6_bitCount_0f7a4 q1)) fun x2 => (if x2 ≤ v2 then some (.inl (v1, v2, (v3 + 1))) else some (.inl (v3, x2, (v3 + 1)))))
def fX11_richest (μ : PM)  : Option (Int32) :=
  ((lp (fun s => lbX11_richest_6 μ s.1 s.2.1 s.2.2) go_fuel ((-1), 0, 0)).bind fun ρ3 => some ρ3)
def ggX11_richest_6 (w : go_Wd) (tx : Nat) (Q : Option Value → go_M → Prop) (μ : PM)   (s : Int32 × Int32 × Int32) : Prop := Go w 1 0 0 mtX11_richest 6 [(0, .ref 0), (1, .int s.1), (2, .int s.2.1), (3, .int s.2.2)] [] (go_mk tx μ) (go_Z w Q)
def eeX11_richest_6 (w : go_Wd) (tx : Nat) (Q : Option Value → go_M → Prop) (μ : PM)   (y : Int32) : Prop := Q (some (.int y)) (go_mk tx μ)
set_option maxRecDepth 20000 in
set_option maxHeartbeats 4000000 in
theorem lqX11_richest_6 (w : go_Wd) (tx : Nat) (Q : Option Value → go_M → Prop) (μ : PM)    (v1 : Int32) (v2 : Int32) (v3 : Int32) (out : (Int32 × Int32 × Int32) ⊕ (Int32)) (h : lbX11_richest_6 μ  v1 v2 v3 = some out) (hK : go_out (ggX11_richest_6 w tx Q μ  ) (eeX11_richest_6 w tx Q μ  ) out) : ggX11_richest_6 w tx Q μ   (v1, v2, v3) := by
  unfold lbX11_richest_6 at h
  show Go w 1 0 0 mtX11_richest 6 [(0, .ref 0), (1, .int v1), (2, .int v2), (3, .int v3)] [] (go_mk tx μ) (go_Z w Q)
  refine go_iload_n dX11_richest_6 3 rfl ?_
  refine go_aload_n dX11_richest_7 0 rfl ?_
  refine pp_getR dX11_richest_8 ff_X11_20 (Or.inl ⟨_, rfl⟩) sh_0 rf_0_1 ?_
  refine pp_getI dX11_richest_11 ff_X11_121 (by decide) go_isW_12.1 ?_
  refine go_icmp_ge 50 dX11_richest_14 (by decide) (fun hc => ?_) (fun hc => ?_)
  · have h := go_ifp hc h
    refine go_iload_n dX11_richest_50 1 rfl ?_
    cases h
    exact go_iret dX11_richest_51 rfl hK
  · have h := go_ifn hc h
    refine go_aload_n dX11_richest_17 0 rfl ?_
    refine pp_getR dX11_richest_18 ff_X11_20 (Or.inl ⟨_, rfl⟩) sh_0 rf_0_1 ?_
    refine go_bipush (v := 20) dX11_richest_21 (by decide) ?_
    refine go_iload_n dX11_richest_23 3 rfl ?_
    refine go_iadd dX11_richest_24 ?_
    obtain ⟨q1, hq1, h⟩ := go_bind h
    refine pp_callV (as := [.int (20 + v3)]) (st := []) (rv := (some (.int q1))) (μ1 := μ) (st1 := [.int q1]) dX11_richest_25 ll_X11_247 go_isW_12.1 (by decide) rfl (ctX10_namesIn go_isW_12 hq1) rfl (Nat.le_of_ble_eq_true rfl) (Nat.le_of_ble_eq_true rfl) (go_Z_up w _) rfl rfl ?_
    refine pp_callS (as := [.int q1]) (st := []) (rv := (some (.int (fJ6_bitCount_0f7a4 q1)))) (μ1 := μ) (st1 := [.int (fJ6_bitCount_0f7a4 q1)]) dX11_richest_28 ll_X11_388 (ctJ6_bitCount_0f7a4  rfl) rfl (Nat.le_of_ble_eq_true rfl) (Nat.le_of_ble_eq_true rfl) (go_Z_up w _) rfl rfl ?_
    obtain ⟨x2, hx2, h⟩ := go_let_e h
    refine go_top hx2 ?_
    refine go_istore dX11_richest_31 (by decide) rfl ?_
    show Go w 1 0 0 mtX11_richest 33 [(4, .int x2), (0, .ref 0), (1, .int v1), (2, .int v2), (3, .int v3)] [] (go_mk tx μ) (go_Z w Q)
    refine go_iload dX11_richest_33 0 rfl ?_
    refine go_iload_n dX11_richest_35 3 rfl ?_
    refine go_icmp_le 44 dX11_richest_36 (by decide) (fun hc => ?_) (fun hc => ?_)
    · have h := go_ifp hc h
      refine go_iinc (v := (v3 + 1)) dX11_richest_44 4 rfl rfl (by decide) rfl ?_
      show Go w 1 0 0 mtX11_richest 47 [(3, .int (v3 + 1)), (4, .int x2), (0, .ref 0), (1, .int v1), (2, .int v2)] [] (go_mk tx μ) (go_Z w Q)
      refine go_goto 6 dX11_richest_47 (by decide) ?_
      cases h
      have hK : Go w 1 0 0 mtX11_richest 6 [(0, .ref 0), (1, .int v1), (2, .int v2), (3, .int (v3 + 1))] [] (go_mk tx μ) (go_Z w Q) := hK
      exact go_pick [2, 3, 4, 0] rfl hK
    · have h := go_ifn hc h
      refine go_iload dX11_richest_39 0 rfl ?_
      refine go_istore_n dX11_richest_41 (by decide) rfl ?_
      show Go w 1 0 0 mtX11_richest 42 [(2, .int x2), (4, .int x2), (0, .ref 0), (1, .int v1), (3, .int v3)] [] (go_mk tx μ) (go_Z w Q)
      refine go_iload_n dX11_richest_42 4 rfl ?_
      refine go_istore_n dX11_richest_43 (by decide) rfl ?_
      show Go w 1 0 0 mtX11_richest 44 [(1, .int v3), (2, .int x2), (4, .int x2), (0, .ref 0), (3, .int v3)] [] (go_mk tx μ) (go_Z w Q)
      refine go_iinc (v := (v3 + 1)) dX11_richest_44 4 rfl rfl (by decide) rfl ?_
      show Go w 1 0 0 mtX11_richest 47 [(3, .int (v3 + 1)), (1, .int v3), (2, .int x2), (4, .int x2), (0, .ref 0)] [] (go_mk tx μ) (go_Z w Q)
      refine go_goto 6 dX11_richest_47 (by decide) ?_
      cases h
      have hK : Go w 1 0 0 mtX11_richest 6 [(0, .ref 0), (1, .int v3), (2, .int x2), (3, .int (v3 + 1))] [] (go_mk tx μ) (go_Z w Q) := hK
      exact go_pick [4, 1, 2, 0] rfl hK
set_option maxRecDepth 20000 in
set_option maxHeartbeats 4000000 in
theorem cmX11_richest (w : go_Wd) (tx : Nat) (Q : Option Value → go_M → Prop) (μ : PM)  (out : Int32) (h : fX11_richest μ = some out) (hK : Q (some (.int out)) (go_mk tx μ)) : Go w 1 0 0 mtX11_richest 0 [(0, .ref 0)] [] (go_mk tx μ) (go_Z w Q) := by
  unfold fX11_richest at h
  refine go_iconst (v := (-1)) dX11_richest_0 (by decide) ?_
  refine go_istore_n dX11_richest_1 (by decide) rfl ?_
  show Go w 1 0 0 mtX11_richest 2 [(1, .int (-1)), (0, .ref 0)] [] (go_mk tx μ) (go_Z w Q)
  refine go_iconst (v := 0) dX11_richest_2 (by decide) ?_
  refine go_istore_n dX11_richest_3 (by decide) rfl ?_
  show Go w 1 0 0 mtX11_richest 4 [(2, .int 0), (1, .int (-1)), (0, .ref 0)] [] (go_mk tx μ) (go_Z w Q)
  refine go_iconst (v := 0) dX11_richest_4 (by decide) ?_
  refine go_istore_n dX11_richest_5 (by decide) rfl ?_
  show Go w 1 0 0 mtX11_richest 6 [(3, .int 0), (2, .int 0), (1, .int (-1)), (0, .ref 0)] [] (go_mk tx μ) (go_Z w Q)
  obtain ⟨ρ3, hρ3, h⟩ := go_bind h
  refine go_pick [3, 2, 1, 0] rfl ?_
  refine go_lp (G := ggX11_richest_6 w tx Q μ  ) (E := eeX11_richest_6 w tx Q μ  ) (fun s out h hK => lqX11_richest_6 w tx Q μ    s.1 s.2.1 s.2.2 out h hK) go_fuel ((-1), 0, 0) ρ3 hρ3 ?_
  cases h
  exact hK
theorem ctX11_richest {w : go_Wd} {tx : Nat} {μ : PM}  {r : Int32}  (h : fX11_richest μ = some r) : Ct w 1 0 0 mtX11_richest [.ref 0] (go_mk tx μ) (fun r' M' => r' = some (.int r) ∧ M' = go_mk tx μ) :=
  go_entry rfl (by decide) (Nat.le_of_ble_eq_true rfl) (cmX11_richest w tx _ μ  _ h ⟨rfl, rfl⟩)
def lbX11_next_6 (μ : PM)   (v1 : Int32) (v2 : Int32) (v3 : Int32) : Option ((Int32 × Int32 × Int32) ⊕ (Int32)) :=
  (if (μ.1 12 5) ≤ v3 then some (.inr (v1)) else (if 6 ≤ v3 then some (.inr (v1)) else go_chk v3 6 <| go_let ((μ.1 13 v3.toNatClampNeg)) fun x2 => (if 10 ≤ x2 then some (.inl (v1, v2, (v3 + 1))) else (if x2 ≤ v2 then some (.inl (v1, v2, (v3 + 1))) else some (.inl (v3, x2, (v3 + 1)))))))
def fX11_next (μ : PM)  : Option (Int32) :=
  ((lp (fun s => lbX11_next_6 μ s.1 s.2.1 s.2.2) go_fuel ((-1), (-1), 0)).bind fun ρ3 => some ρ3)
def ggX11_next_6 (w : go_Wd) (tx : Nat) (Q : Option Value → go_M → Prop) (μ : PM)   (s : Int32 × Int32 × Int32) : Prop := Go w 0 0 0 mtX11_next 6 [(0, .ref 0), (1, .int s.1), (2, .int s.2.1), (3, .int s.2.2)] [] (go_mk tx μ) (go_Z w Q)
def eeX11_next_6 (w : go_Wd) (tx : Nat) (Q : Option Value → go_M → Prop) (μ : PM)   (y : Int32) : Prop := Q (some (.int y)) (go_mk tx μ)
set_option maxRecDepth 20000 in
set_option maxHeartbeats 4000000 in
theorem lqX11_next_6 (w : go_Wd) (tx : Nat) (Q : Option Value → go_M → Prop) (μ : PM)    (v1 : Int32) (v2 : Int32) (v3 : Int32) (out : (Int32 × Int32 × Int32) ⊕ (Int32)) (h : lbX11_next_6 μ  v1 v2 v3 = some out) (hK : go_out (ggX11_next_6 w tx Q μ  ) (eeX11_next_6 w tx Q μ  ) out) : ggX11_next_6 w tx Q μ   (v1, v2, v3) := by
  unfold lbX11_next_6 at h
  show Go w 0 0 0 mtX11_next 6 [(0, .ref 0), (1, .int v1), (2, .int v2), (3, .int v3)] [] (go_mk tx μ) (go_Z w Q)
  refine go_iload_n dX11_next_6 3 rfl ?_
  refine go_aload_n dX11_next_7 0 rfl ?_
  refine pp_getR dX11_next_8 ff_X11_20 (Or.inl ⟨_, rfl⟩) sh_0 rf_0_1 ?_
  refine pp_getI dX11_next_11 ff_X11_106 (by decide) go_isW_12.1 ?_
  refine go_icmp_ge 58 dX11_next_14 (by decide) (fun hc => ?_) (fun hc => ?_)
  · have h := go_ifp hc h
    refine go_iload_n dX11_next_58 1 rfl ?_
    cases h
    exact go_iret dX11_next_59 rfl hK
  · have h := go_ifn hc h
    refine go_iload_n dX11_next_17 3 rfl ?_
    refine go_bipush (v := 6) dX11_next_18 (by decide) ?_
    refine go_icmp_ge 58 dX11_next_20 (by decide) (fun hc => ?_) (fun hc => ?_)
    · have h := go_ifp hc h
      refine go_iload_n dX11_next_58 1 rfl ?_
      cases h
      exact go_iret dX11_next_59 rfl hK
    · have h := go_ifn hc h
      refine go_aload_n dX11_next_23 0 rfl ?_
      refine pp_getR dX11_next_24 ff_X11_20 (Or.inl ⟨_, rfl⟩) sh_0 rf_0_1 ?_
      refine pp_getR dX11_next_27 ff_X11_115 (Or.inr ⟨_, rfl⟩) go_isW_12.1 rf_12_0 ?_
      refine go_iload_n dX11_next_30 3 rfl ?_
      obtain ⟨hz1, h⟩ := go_chk_e h
      refine pp_ild dX11_next_31 sh_13 hz1 ?_
      obtain ⟨x2, hx2, h⟩ := go_let_e h
      refine go_top hx2 ?_
      refine go_istore dX11_next_32 (by decide) rfl ?_
      show Go w 0 0 0 mtX11_next 34 [(4, .int x2), (0, .ref 0), (1, .int v1), (2, .int v2), (3, .int v3)] [] (go_mk tx μ) (go_Z w Q)
      refine go_iload dX11_next_34 0 rfl ?_
      refine go_bipush (v := 10) dX11_next_36 (by decide) ?_
      refine go_icmp_ge 52 dX11_next_38 (by decide) (fun hc => ?_) (fun hc => ?_)
      · have h := go_ifp hc h
        refine go_iinc (v := (v3 + 1)) dX11_next_52 4 rfl rfl (by decide) rfl ?_
        show Go w 0 0 0 mtX11_next 55 [(3, .int (v3 + 1)), (4, .int x2), (0, .ref 0), (1, .int v1), (2, .int v2)] [] (go_mk tx μ) (go_Z w Q)
        refine go_goto 6 dX11_next_55 (by decide) ?_
        cases h
        have hK : Go w 0 0 0 mtX11_next 6 [(0, .ref 0), (1, .int v1), (2, .int v2), (3, .int (v3 + 1))] [] (go_mk tx μ) (go_Z w Q) := hK
        exact go_pick [2, 3, 4, 0] rfl hK
      · have h := go_ifn hc h
        refine go_iload dX11_next_41 0 rfl ?_
        refine go_iload_n dX11_next_43 3 rfl ?_
        refine go_icmp_le 52 dX11_next_44 (by decide) (fun hc => ?_) (fun hc => ?_)
        · have h := go_ifp hc h
          refine go_iinc (v := (v3 + 1)) dX11_next_52 4 rfl rfl (by decide) rfl ?_
          show Go w 0 0 0 mtX11_next 55 [(3, .int (v3 + 1)), (4, .int x2), (0, .ref 0), (1, .int v1), (2, .int v2)] [] (go_mk tx μ) (go_Z w Q)
          refine go_goto 6 dX11_next_55 (by decide) ?_
          cases h
          have hK : Go w 0 0 0 mtX11_next 6 [(0, .ref 0), (1, .int v1), (2, .int v2), (3, .int (v3 + 1))] [] (go_mk tx μ) (go_Z w Q) := hK
          exact go_pick [2, 3, 4, 0] rfl hK
        · have h := go_ifn hc h
          refine go_iload dX11_next_47 0 rfl ?_
          refine go_istore_n dX11_next_49 (by decide) rfl ?_
          show Go w 0 0 0 mtX11_next 50 [(2, .int x2), (4, .int x2), (0, .ref 0), (1, .int v1), (3, .int v3)] [] (go_mk tx μ) (go_Z w Q)
          refine go_iload_n dX11_next_50 4 rfl ?_
          refine go_istore_n dX11_next_51 (by decide) rfl ?_
          show Go w 0 0 0 mtX11_next 52 [(1, .int v3), (2, .int x2), (4, .int x2), (0, .ref 0), (3, .int v3)] [] (go_mk tx μ) (go_Z w Q)
          refine go_iinc (v := (v3 + 1)) dX11_next_52 4 rfl rfl (by decide) rfl ?_
          show Go w 0 0 0 mtX11_next 55 [(3, .int (v3 + 1)), (1, .int v3), (2, .int x2), (4, .int x2), (0, .ref 0)] [] (go_mk tx μ) (go_Z w Q)
          refine go_goto 6 dX11_next_55 (by decide) ?_
          cases h
          have hK : Go w 0 0 0 mtX11_next 6 [(0, .ref 0), (1, .int v3), (2, .int x2), (3, .int (v3 + 1))] [] (go_mk tx μ) (go_Z w Q) := hK
          exact go_pick [4, 1, 2, 0] rfl hK
set_option maxRecDepth 20000 in
set_option maxHeartbeats 4000000 in
theorem cmX11_next (w : go_Wd) (tx : Nat) (Q : Option Value → go_M → Prop) (μ : PM)  (out : Int32) (h : fX11_next μ = some out) (hK : Q (some (.int out)) (go_mk tx μ)) : Go w 0 0 0 mtX11_next 0 [(0, .ref 0)] [] (go_mk tx μ) (go_Z w Q) := by
  unfold fX11_next at h
  refine go_iconst (v := (-1)) dX11_next_0 (by decide) ?_
  refine go_istore_n dX11_next_1 (by decide) rfl ?_
  show Go w 0 0 0 mtX11_next 2 [(1, .int (-1)), (0, .ref 0)] [] (go_mk tx μ) (go_Z w Q)
  refine go_iconst (v := (-1)) dX11_next_2 (by decide) ?_
  refine go_istore_n dX11_next_3 (by decide) rfl ?_
  show Go w 0 0 0 mtX11_next 4 [(2, .int (-1)), (1, .int (-1)), (0, .ref 0)] [] (go_mk tx μ) (go_Z w Q)
  refine go_iconst (v := 0) dX11_next_4 (by decide) ?_
  refine go_istore_n dX11_next_5 (by decide) rfl ?_
  show Go w 0 0 0 mtX11_next 6 [(3, .int 0), (2, .int (-1)), (1, .int (-1)), (0, .ref 0)] [] (go_mk tx μ) (go_Z w Q)
  obtain ⟨ρ3, hρ3, h⟩ := go_bind h
  refine go_pick [3, 2, 1, 0] rfl ?_
  refine go_lp (G := ggX11_next_6 w tx Q μ  ) (E := eeX11_next_6 w tx Q μ  ) (fun s out h hK => lqX11_next_6 w tx Q μ    s.1 s.2.1 s.2.2 out h hK) go_fuel ((-1), (-1), 0) ρ3 hρ3 ?_
  cases h
  exact hK
theorem ctX11_next {w : go_Wd} {tx : Nat} {μ : PM}  {r : Int32}  (h : fX11_next μ = some r) : Ct w 0 0 0 mtX11_next [.ref 0] (go_mk tx μ) (fun r' M' => r' = some (.int r) ∧ M' = go_mk tx μ) :=
  go_entry rfl (by decide) (Nat.le_of_ble_eq_true rfl) (cmX11_next w tx _ μ  _ h ⟨rfl, rfl⟩)
def fX11_frozen (μ : PM)  : Option (Int32) :=
  (fX10_namesIn μ 12 (-1)).bind fun q1 => some (q1)
set_option maxRecDepth 20000 in
set_option maxHeartbeats 4000000 in
theorem cmX11_frozen (w : go_Wd) (tx : Nat) (Q : Option Value → go_M → Prop) (μ : PM)  (out : Int32) (h : fX11_frozen μ = some out) (hK : Q (some (.int out)) (go_mk tx μ)) : Go w 1 0 0 mtX11_frozen 0 [(0, .ref 0)] [] (go_mk tx μ) (go_Z w Q) := by
  unfold fX11_frozen at h
  refine go_aload_n dX11_frozen_0 0 rfl ?_
  refine pp_getR dX11_frozen_1 ff_X11_20 (Or.inl ⟨_, rfl⟩) sh_0 rf_0_1 ?_
  refine go_iconst (v := (-1)) dX11_frozen_4 (by decide) ?_
  obtain ⟨q1, hq1, h⟩ := go_bind h
  refine pp_callV (as := [.int (-1)]) (st := []) (rv := (some (.int q1))) (μ1 := μ) (st1 := [.int q1]) dX11_frozen_5 ll_X11_247 go_isW_12.1 (by decide) rfl (ctX10_namesIn go_isW_12 hq1) rfl (Nat.le_of_ble_eq_true rfl) (Nat.le_of_ble_eq_true rfl) (go_Z_up w _) rfl rfl ?_
  cases h
  exact go_iret dX11_frozen_8 rfl hK
theorem ctX11_frozen {w : go_Wd} {tx : Nat} {μ : PM}  {r : Int32}  (h : fX11_frozen μ = some r) : Ct w 1 0 0 mtX11_frozen [.ref 0] (go_mk tx μ) (fun r' M' => r' = some (.int r) ∧ M' = go_mk tx μ) :=
  go_entry rfl (by decide) (Nat.le_of_ble_eq_true rfl) (cmX11_frozen w tx _ μ  _ h ⟨rfl, rfl⟩)
def lbX11_ledger_16 (μ : PM) (a0 : Int32)  (v2 : Int32) (v3 : Int32) : Option ((Int32 × Int32) ⊕ (Int32)) :=
  (if (μ.1 12 4) ≤ v3 then some (.inr (v2)) else (if 30 ≤ v3 then some (.inr (v2)) else go_chk v3 30 <| (if (jrem ((μ.1 16 v3.toNatClampNeg) / 10) 10) = a0 then some (.inl ((v2 + 1), (v3 + 1))) else some (.inl (v2, (v3 + 1))))))
def fX11_ledger (μ : PM) (a0 : Int32) : Option (Int32) :=
  (if a0 < 0 then some ((-2)) else (if a0 ≤ 2 then ((lp (fun s => lbX11_ledger_16 μ a0 s.1 s.2) go_fuel (0, 0)).bind fun ρ2 => some ρ2) else some ((-2))))
def ggX11_ledger_16 (w : go_Wd) (tx : Nat) (Q : Option Value → go_M → Prop) (μ : PM) (a0 : Int32)  (s : Int32 × Int32) : Prop := Go w 0 0 0 mtX11_ledger 16 [(0, .ref 0), (1, .int a0), (2, .int s.1), (3, .int s.2)] [] (go_mk tx μ) (go_Z w Q)
def eeX11_ledger_16 (w : go_Wd) (tx : Nat) (Q : Option Value → go_M → Prop) (μ : PM) (a0 : Int32)  (y : Int32) : Prop := Q (some (.int y)) (go_mk tx μ)
set_option maxRecDepth 20000 in
set_option maxHeartbeats 4000000 in
theorem lqX11_ledger_16 (w : go_Wd) (tx : Nat) (Q : Option Value → go_M → Prop) (μ : PM) (a0 : Int32)   (v2 : Int32) (v3 : Int32) (out : (Int32 × Int32) ⊕ (Int32)) (h : lbX11_ledger_16 μ a0  v2 v3 = some out) (hK : go_out (ggX11_ledger_16 w tx Q μ a0 ) (eeX11_ledger_16 w tx Q μ a0 ) out) : ggX11_ledger_16 w tx Q μ a0  (v2, v3) := by
  unfold lbX11_ledger_16 at h
  show Go w 0 0 0 mtX11_ledger 16 [(0, .ref 0), (1, .int a0), (2, .int v2), (3, .int v3)] [] (go_mk tx μ) (go_Z w Q)
  refine go_iload_n dX11_ledger_16 3 rfl ?_
  refine go_aload_n dX11_ledger_17 0 rfl ?_
  refine pp_getR dX11_ledger_18 ff_X11_20 (Or.inl ⟨_, rfl⟩) sh_0 rf_0_1 ?_
  refine pp_getI dX11_ledger_21 ff_X11_268 (by decide) go_isW_12.1 ?_
  refine go_icmp_ge 61 dX11_ledger_24 (by decide) (fun hc => ?_) (fun hc => ?_)
  · have h := go_ifp hc h
    refine go_iload_n dX11_ledger_61 2 rfl ?_
    cases h
    exact go_iret dX11_ledger_62 rfl hK
  · have h := go_ifn hc h
    refine go_iload_n dX11_ledger_27 3 rfl ?_
    refine go_bipush (v := 30) dX11_ledger_28 (by decide) ?_
    refine go_icmp_ge 61 dX11_ledger_30 (by decide) (fun hc => ?_) (fun hc => ?_)
    · have h := go_ifp hc h
      refine go_iload_n dX11_ledger_61 2 rfl ?_
      cases h
      exact go_iret dX11_ledger_62 rfl hK
    · have h := go_ifn hc h
      refine go_aload_n dX11_ledger_33 0 rfl ?_
      refine pp_getR dX11_ledger_34 ff_X11_20 (Or.inl ⟨_, rfl⟩) sh_0 rf_0_1 ?_
      refine pp_getR dX11_ledger_37 ff_X11_271 (Or.inr ⟨_, rfl⟩) go_isW_12.1 rf_12_3 ?_
      refine go_iload_n dX11_ledger_40 3 rfl ?_
      obtain ⟨hz1, h⟩ := go_chk_e h
      refine pp_ild dX11_ledger_41 sh_16 hz1 ?_
      refine go_bipush (v := 10) dX11_ledger_42 (by decide) ?_
      refine go_idiv dX11_ledger_44 (by decide) ?_
      refine go_bipush (v := 10) dX11_ledger_45 (by decide) ?_
      refine go_iremJ dX11_ledger_47 (by decide) ?_
      refine go_iload_n dX11_ledger_48 1 rfl ?_
      refine go_icmp_ne 55 dX11_ledger_49 (by decide) (fun hc => ?_) (fun hc => ?_)
      · have h := go_ifn hc h
        refine go_iinc (v := (v3 + 1)) dX11_ledger_55 3 rfl rfl (by decide) rfl ?_
        show Go w 0 0 0 mtX11_ledger 58 [(3, .int (v3 + 1)), (0, .ref 0), (1, .int a0), (2, .int v2)] [] (go_mk tx μ) (go_Z w Q)
        refine go_goto 16 dX11_ledger_58 (by decide) ?_
        cases h
        have hK : Go w 0 0 0 mtX11_ledger 16 [(0, .ref 0), (1, .int a0), (2, .int v2), (3, .int (v3 + 1))] [] (go_mk tx μ) (go_Z w Q) := hK
        exact go_pick [1, 2, 3, 0] rfl hK
      · have h := go_ifp hc h
        refine go_iinc (v := (v2 + 1)) dX11_ledger_52 2 rfl rfl (by decide) rfl ?_
        show Go w 0 0 0 mtX11_ledger 55 [(2, .int (v2 + 1)), (0, .ref 0), (1, .int a0), (3, .int v3)] [] (go_mk tx μ) (go_Z w Q)
        refine go_iinc (v := (v3 + 1)) dX11_ledger_55 3 rfl rfl (by decide) rfl ?_
        show Go w 0 0 0 mtX11_ledger 58 [(3, .int (v3 + 1)), (2, .int (v2 + 1)), (0, .ref 0), (1, .int a0)] [] (go_mk tx μ) (go_Z w Q)
        refine go_goto 16 dX11_ledger_58 (by decide) ?_
        cases h
        have hK : Go w 0 0 0 mtX11_ledger 16 [(0, .ref 0), (1, .int a0), (2, .int (v2 + 1)), (3, .int (v3 + 1))] [] (go_mk tx μ) (go_Z w Q) := hK
        exact go_pick [2, 3, 1, 0] rfl hK
set_option maxRecDepth 20000 in
set_option maxHeartbeats 4000000 in
theorem cmX11_ledger (w : go_Wd) (tx : Nat) (Q : Option Value → go_M → Prop) (μ : PM) (a0 : Int32) (out : Int32) (h : fX11_ledger μ a0 = some out) (hK : Q (some (.int out)) (go_mk tx μ)) : Go w 0 0 0 mtX11_ledger 0 [(0, .ref 0), (1, .int a0)] [] (go_mk tx μ) (go_Z w Q) := by
  unfold fX11_ledger at h
  refine go_iload_n dX11_ledger_0 1 rfl ?_
  refine go_if_lt 9 dX11_ledger_1 (by decide) (fun hc => ?_) (fun hc => ?_)
  · have h := go_ifp hc h
    refine go_bipush (v := (-2)) dX11_ledger_9 (by decide) ?_
    cases h
    exact go_iret dX11_ledger_11 rfl hK
  · have h := go_ifn hc h
    refine go_iload_n dX11_ledger_4 1 rfl ?_
    refine go_iconst (v := 2) dX11_ledger_5 (by decide) ?_
    refine go_icmp_le 12 dX11_ledger_6 (by decide) (fun hc => ?_) (fun hc => ?_)
    · have h := go_ifp hc h
      refine go_iconst (v := 0) dX11_ledger_12 (by decide) ?_
      refine go_istore_n dX11_ledger_13 (by decide) rfl ?_
      show Go w 0 0 0 mtX11_ledger 14 [(2, .int 0), (0, .ref 0), (1, .int a0)] [] (go_mk tx μ) (go_Z w Q)
      refine go_iconst (v := 0) dX11_ledger_14 (by decide) ?_
      refine go_istore_n dX11_ledger_15 (by decide) rfl ?_
      show Go w 0 0 0 mtX11_ledger 16 [(3, .int 0), (2, .int 0), (0, .ref 0), (1, .int a0)] [] (go_mk tx μ) (go_Z w Q)
      obtain ⟨ρ2, hρ2, h⟩ := go_bind h
      refine go_pick [2, 3, 1, 0] rfl ?_
      refine go_lp (G := ggX11_ledger_16 w tx Q μ a0 ) (E := eeX11_ledger_16 w tx Q μ a0 ) (fun s out h hK => lqX11_ledger_16 w tx Q μ a0   s.1 s.2 out h hK) go_fuel (0, 0) ρ2 hρ2 ?_
      cases h
      exact hK
    · have h := go_ifn hc h
      refine go_bipush (v := (-2)) dX11_ledger_9 (by decide) ?_
      cases h
      exact go_iret dX11_ledger_11 rfl hK
theorem ctX11_ledger {w : go_Wd} {tx : Nat} {μ : PM} {a0 : Int32} {r : Int32}  (h : fX11_ledger μ a0 = some r) : Ct w 0 0 0 mtX11_ledger [.ref 0, .int a0] (go_mk tx μ) (fun r' M' => r' = some (.int r) ∧ M' = go_mk tx μ) :=
  go_entry rfl (by decide) (Nat.le_of_ble_eq_true rfl) (cmX11_ledger w tx _ μ a0 _ h ⟨rfl, rfl⟩)