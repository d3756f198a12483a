def lbX9_takeBack_44 (o : Nat) (v1 : Nat) (v2 : Int32) (v3 : Int32) (v4 : Int32) (μ : PM) : Option ((Int32 × PM) ⊕ ((PM) ⊕ (Int32 × PM))) :=
  (if v2 ≤ v4 then some (.inr (.inl μ)) else (if 6 ≤ v4 then some (.inr (.inl μ)) else go_chk v4 6 <| go_let (pm_wi μ ((o + 11) + 1) v4.toNatClampNeg (-1)) fun μ7 => go_chk v4 6 <| (fX11_countSounds (μ7.1 (o + 1) v4.toNatClampNeg)).bind fun q10 => go_chk v4 6 <| go_let (pm_wi μ7 ((o + 11) + 2) v4.toNatClampNeg q10) fun μ11 => some (.inl ((v4 + 1), μ11))))
def lbX9_takeBack_100 (o : Nat) (v2 : Int32) (v3 : Int32) (v4 : Int32) (μ : PM) : Option ((Int32 × PM) ⊕ ((PM) ⊕ (Int32 × PM))) :=
  (if v3 ≤ v4 then some (.inr (.inl μ)) else (if 5 ≤ v4 then some (.inr (.inl μ)) else go_chk v4 5 <| go_chk v4 5 <| go_let (pm_wi μ ((o + 11) + 3) v4.toNatClampNeg (μ.1 (o + 4) v4.toNatClampNeg)) fun μ16 => some (.inl ((v4 + 1), μ16))))
def jjX9_takeBack_135 (μ : PM) (o : Nat) (v2 : Int32) (v3 : Int32)  : Option (Int32 × PM) :=
  go_let (pm_wi μ (o + 11) 5 v2) fun μ20 => go_let (pm_wi μ20 (o + 11) 6 v3) fun μ21 => some ((1, μ21))
def jjX9_takeBack_94 (μ : PM) (o : Nat) (v1 : Nat) (v2 : Int32) (v3 : Int32)  : Option (Int32 × PM) :=
  ((lp (fun s => lbX9_takeBack_100 o v2 v3 s.1 s.2) go_fuel ((μ.1 v1 6), μ)).bind fun ρ18 => go_cs ρ18 (fun e19 => jjX9_takeBack_135 e19 o v2 v3) (fun y => some y))
def fX9_takeBack (μ : PM) (o : Nat) : Option (Int32 × PM) :=
  (fX7_takeLatest μ (o + 16)).bind fun q1 => go_let (q1.1) fun x2 => go_op x2 (some ((0, q1.2))) (fun q3 => go_let ((q1.2.1 (o + 11) 5)) fun x4 => go_let ((q1.2.1 (o + 11) 6)) fun x5 => go_let (fX10_become q1.2 (o + 11) q3) fun q6 => ((lp (fun s => lbX9_takeBack_44 o q3 x4 x5 s.1 s.2) go_fuel ((q6.1 q3 5), q6)).bind fun ρ13 => go_cs ρ13 (fun e14 => jjX9_takeBack_94 e14 o q3 x4 x5) (fun y => some y)))
def ggX9_takeBack_44 (w : go_Wd) (tx : Nat) (Q : Option Value → go_M → Prop) (o : Nat) (v1 : Nat) (v2 : Int32) (v3 : Int32) (s : Int32 × PM) : Prop := Go w 2 0 0 mtX9_takeBack 44 [(0, .ref o), (1, .ref v1), (2, .int v2), (3, .int v3), (4, .int s.1)] [] (go_mk tx s.2) (go_Z w Q)
def ggX9_takeBack_100 (w : go_Wd) (tx : Nat) (Q : Option Value → go_M → Prop) (o : Nat) (v2 : Int32) (v3 : Int32) (s : Int32 × PM) : Prop := Go w 2 0 0 mtX9_takeBack 100 [(0, .ref o), (2, .int v2), (3, .int v3), (4, .int s.1)] [] (go_mk tx s.2) (go_Z w Q)
def eeX9_takeBack_44 (w : go_Wd) (tx : Nat) (Q : Option Value → go_M → Prop) (o : Nat) (v1 : Nat) (v2 : Int32) (v3 : Int32) : (PM) ⊕ (Int32 × PM) → Prop
  | .inl e => Go w 2 0 0 mtX9_takeBack 94 [(0, .ref o), (1, .ref v1), (2, .int v2), (3, .int v3)] [] (go_mk tx e) (go_Z w Q)
  | .inr y => Q (some (.int y.1)) (go_mk tx y.2)
def eeX9_takeBack_100 (w : go_Wd) (tx : Nat) (Q : Option Value → go_M → Prop) (o : Nat) (v2 : Int32) (v3 : Int32) : (PM) ⊕ (Int32 × PM) → Prop
  | .inl e => Go w 2 0 0 mtX9_takeBack 135 [(0, .ref o), (2, .int v2), (3, .int v3)] [] (go_mk tx e) (go_Z w Q)
  | .inr y => Q (some (.int y.1)) (go_mk tx y.2)
set_option maxRecDepth 20000 in
set_option maxHeartbeats 4000000 in
theorem lqX9_takeBack_44 (w : go_Wd) (tx : Nat) (Q : Option Value → go_M → Prop) (o : Nat) (ho : go_isV o) (v1 : Nat) (v2 : Int32) (v3 : Int32) (hv1 : go_isW v1) (v4 : Int32) (μ : PM) (out : (Int32 × PM) ⊕ ((PM) ⊕ (Int32 × PM))) (h : lbX9_takeBack_44 o v1 v2 v3 v4 μ = some out) (hK : go_out (ggX9_takeBack_44 w tx Q o v1 v2 v3) (eeX9_takeBack_44 w tx Q o v1 v2 v3) out) : ggX9_takeBack_44 w tx Q o v1 v2 v3 (v4, μ) := by
  unfold lbX9_takeBack_44 at h
  show Go w 2 0 0 mtX9_takeBack 44 [(0, .ref o), (1, .ref v1), (2, .int v2), (3, .int v3), (4, .int v4)] [] (go_mk tx μ) (go_Z w Q)
  refine go_iload dX9_takeBack_44 4 rfl ?_
  refine go_iload_n dX9_takeBack_46 2 rfl ?_
  refine go_icmp_ge 94 dX9_takeBack_47 (by decide) (fun hc => ?_) (fun hc => ?_)
  · have h := go_ifp hc h
    cases h
    have hK : Go w 2 0 0 mtX9_takeBack 94 [(0, .ref o), (1, .ref v1), (2, .int v2), (3, .int v3)] [] (go_mk tx μ) (go_Z w Q) := hK
    exact go_pick [0, 1, 2, 3] rfl hK
  · have h := go_ifn hc h
    refine go_iload dX9_takeBack_50 4 rfl ?_
    refine go_bipush (v := 6) dX9_takeBack_52 (by decide) ?_
    refine go_icmp_ge 94 dX9_takeBack_54 (by decide) (fun hc => ?_) (fun hc => ?_)
    · have h := go_ifp hc h
      cases h
      have hK : Go w 2 0 0 mtX9_takeBack 94 [(0, .ref o), (1, .ref v1), (2, .int v2), (3, .int v3)] [] (go_mk tx μ) (go_Z w Q) := hK
      exact go_pick [0, 1, 2, 3] rfl hK
    · have h := go_ifn hc h
      refine go_aload_n dX9_takeBack_57 0 rfl ?_
      refine pp_getR dX9_takeBack_58 ff_X9_45 (Or.inl ⟨_, rfl⟩) ho.1 (go_RF_ne ho.2.2.2.2.2.2.2.2.2.2.2.2.2.2.2 ((ho.2.2.2.2.2.2.2.2.2.2.2.2.2.1 10 (by decide)).trans rfl)) ?_
      refine pp_getR dX9_takeBack_61 ff_X9_104 (Or.inr ⟨_, rfl⟩) ho.2.1.1 (go_RF_ne ho.2.1.2.2.2.2.2.2.2.2.2 ho.2.1.2.2.2.2.2.1) ?_
      refine go_iload dX9_takeBack_64 4 rfl ?_
      refine go_iconst (v := (-1)) dX9_takeBack_66 (by decide) ?_
      obtain ⟨hz8, h⟩ := go_chk_e h
      obtain ⟨μ7, hμ7, h⟩ := go_let_e h
      refine pp_ist dX9_takeBack_67 ho.2.1.2.1 hz8 hμ7 ?_
      refine go_aload_n dX9_takeBack_68 0 rfl ?_
      refine pp_getR dX9_takeBack_69 ff_X9_45 (Or.inl ⟨_, rfl⟩) ho.1 (go_RF_ne ho.2.2.2.2.2.2.2.2.2.2.2.2.2.2.2 ((ho.2.2.2.2.2.2.2.2.2.2.2.2.2.1 10 (by decide)).trans rfl)) ?_
      refine pp_getR dX9_takeBack_72 ff_X9_107 (Or.inr ⟨_, rfl⟩) ho.2.1.1 (go_RF_ne ho.2.1.2.2.2.2.2.2.2.2.2 ho.2.1.2.2.2.2.2.2.1) ?_
      refine go_iload dX9_takeBack_75 4 rfl ?_
      refine go_aload_n dX9_takeBack_77 0 rfl ?_
      refine pp_getR dX9_takeBack_78 ff_X9_9 (Or.inr ⟨_, rfl⟩) ho.1 (go_RF_ne ho.2.2.2.2.2.2.2.2.2.2.2.2.2.2.2 ((ho.2.2.2.2.2.2.2.2.2.2.2.2.2.1 0 (by decide)).trans rfl)) ?_
      refine go_iload dX9_takeBack_81 4 rfl ?_
      obtain ⟨hz9, h⟩ := go_chk_e h
      refine pp_ild dX9_takeBack_83 ho.2.2.2.1 hz9 ?_
      obtain ⟨q10, hq10, h⟩ := go_bind h
      refine pp_callSN (as := [.int (μ7.1 (o + 1) v4.toNatClampNeg)]) (st := [.int v4, .ref ((o + 11) + 2)]) (rv := (some (.int q10))) (μ1 := μ7) (st1 := [.int q10, .int v4, .ref ((o + 11) + 2)]) dX9_takeBack_84 ll_X9_110 (ctX11_countSounds  hq10) rfl (Nat.le_of_ble_eq_true rfl) (Nat.le_of_ble_eq_true rfl) (go_Z_up w _) rfl rfl ?_
      obtain ⟨hz12, h⟩ := go_chk_e h
      obtain ⟨μ11, hμ11, h⟩ := go_let_e h
      refine pp_ist dX9_takeBack_87 ho.2.1.2.2.1 hz12 hμ11 ?_
      refine go_iinc (v := (v4 + 1)) dX9_takeBack_88 4 rfl rfl (by decide) rfl ?_
      show Go w 2 0 0 mtX9_takeBack 91 [(4, .int (v4 + 1)), (0, .ref o), (1, .ref v1), (2, .int v2), (3, .int v3)] [] (go_mk tx μ11) (go_Z w Q)
      refine go_goto 44 dX9_takeBack_91 (by decide) ?_
      cases h
      have hK : Go w 2 0 0 mtX9_takeBack 44 [(0, .ref o), (1, .ref v1), (2, .int v2), (3, .int v3), (4, .int (v4 + 1))] [] (go_mk tx μ11) (go_Z w Q) := hK
      exact go_pick [1, 2, 3, 4, 0] rfl hK
set_option maxRecDepth 20000 in
set_option maxHeartbeats 4000000 in
theorem lqX9_takeBack_100 (w : go_Wd) (tx : Nat) (Q : Option Value → go_M → Prop) (o : Nat) (ho : go_isV o) (v2 : Int32) (v3 : Int32)  (v4 : Int32) (μ : PM) (out : (Int32 × PM) ⊕ ((PM) ⊕ (Int32 × PM))) (h : lbX9_takeBack_100 o v2 v3 v4 μ = some out) (hK : go_out (ggX9_takeBack_100 w tx Q o v2 v3) (eeX9_takeBack_100 w tx Q o v2 v3) out) : ggX9_takeBack_100 w tx Q o v2 v3 (v4, μ) := by
  unfold lbX9_takeBack_100 at h
  show Go w 2 0 0 mtX9_takeBack 100 [(0, .ref o), (2, .int v2), (3, .int v3), (4, .int v4)] [] (go_mk tx μ) (go_Z w Q)
  refine go_iload dX9_takeBack_100 3 rfl ?_
  refine go_iload_n dX9_takeBack_102 2 rfl ?_
  refine go_icmp_ge 135 dX9_takeBack_103 (by decide) (fun hc => ?_) (fun hc => ?_)
  · have h := go_ifp hc h
    cases h
    have hK : Go w 2 0 0 mtX9_takeBack 135 [(0, .ref o), (2, .int v2), (3, .int v3)] [] (go_mk tx μ) (go_Z w Q) := hK
    exact go_pick [0, 1, 2] rfl hK
  · have h := go_ifn hc h
    refine go_iload dX9_takeBack_106 3 rfl ?_
    refine go_iconst (v := 5) dX9_takeBack_108 (by decide) ?_
    refine go_icmp_ge 135 dX9_takeBack_109 (by decide) (fun hc => ?_) (fun hc => ?_)
    · have h := go_ifp hc h
      cases h
      have hK : Go w 2 0 0 mtX9_takeBack 135 [(0, .ref o), (2, .int v2), (3, .int v3)] [] (go_mk tx μ) (go_Z w Q) := hK
      exact go_pick [0, 1, 2] rfl hK
    · have h := go_ifn hc h
      refine go_aload_n dX9_takeBack_112 0 rfl ?_
      refine pp_getR dX9_takeBack_113 ff_X9_45 (Or.inl ⟨_, rfl⟩) ho.1 (go_RF_ne ho.2.2.2.2.2.2.2.2.2.2.2.2.2.2.2 ((ho.2.2.2.2.2.2.2.2.2.2.2.2.2.1 10 (by decide)).trans rfl)) ?_
      refine pp_getR dX9_takeBack_116 ff_X9_114 (Or.inr ⟨_, rfl⟩) ho.2.1.1 (go_RF_ne ho.2.1.2.2.2.2.2.2.2.2.2 ho.2.1.2.2.2.2.2.2.2.1) ?_
      refine go_iload dX9_takeBack_119 3 rfl ?_
      refine go_aload_n dX9_takeBack_121 0 rfl ?_
      refine pp_getR dX9_takeBack_122 ff_X9_21 (Or.inr ⟨_, rfl⟩) ho.1 (go_RF_ne ho.2.2.2.2.2.2.2.2.2.2.2.2.2.2.2 ((ho.2.2.2.2.2.2.2.2.2.2.2.2.2.1 3 (by decide)).trans rfl)) ?_
      refine go_iload dX9_takeBack_125 3 rfl ?_
      obtain ⟨hz15, h⟩ := go_chk_e h
      refine pp_ild dX9_takeBack_127 ho.2.2.2.2.2.2.1 hz15 ?_
      obtain ⟨hz17, h⟩ := go_chk_e h
      obtain ⟨μ16, hμ16, h⟩ := go_let_e h
      refine pp_ist dX9_takeBack_128 ho.2.1.2.2.2.1 hz17 hμ16 ?_
      refine go_iinc (v := (v4 + 1)) dX9_takeBack_129 3 rfl rfl (by decide) rfl ?_
      show Go w 2 0 0 mtX9_takeBack 132 [(4, .int (v4 + 1)), (0, .ref o), (2, .int v2), (3, .int v3)] [] (go_mk tx μ16) (go_Z w Q)
      refine go_goto 100 dX9_takeBack_132 (by decide) ?_
      cases h
      have hK : Go w 2 0 0 mtX9_takeBack 100 [(0, .ref o), (2, .int v2), (3, .int v3), (4, .int (v4 + 1))] [] (go_mk tx μ16) (go_Z w Q) := hK
      exact go_pick [1, 2, 3, 0] rfl hK
set_option maxRecDepth 20000 in
set_option maxHeartbeats 4000000 in
theorem jqX9_takeBack_135 (w : go_Wd) (tx : Nat) (Q : Option Value → go_M → Prop) (μ : PM) (o : Nat) (ho : go_isV o) (v2 : Int32) (v3 : Int32)    (out : Int32 × PM) (h : jjX9_takeBack_135 μ o v2 v3  = some out) (hK : Q (some (.int out.1)) (go_mk tx out.2)) : Go w 2 0 0 mtX9_takeBack 135 [(0, .ref o), (2, .int v2), (3, .int v3)] [] (go_mk tx μ) (go_Z w Q) := by
  unfold jjX9_takeBack_135 at h
  refine go_aload_n dX9_takeBack_135 0 rfl ?_
  refine pp_getR dX9_takeBack_136 ff_X9_45 (Or.inl ⟨_, rfl⟩) ho.1 (go_RF_ne ho.2.2.2.2.2.2.2.2.2.2.2.2.2.2.2 ((ho.2.2.2.2.2.2.2.2.2.2.2.2.2.1 10 (by decide)).trans rfl)) ?_
  refine go_iload_n dX9_takeBack_139 1 rfl ?_
  obtain ⟨μ20, hμ20, h⟩ := go_let_e h
  refine pp_putI dX9_takeBack_140 ff_X9_98 (Or.inl rfl) ho.2.1.1 hμ20 ?_
  refine go_aload_n dX9_takeBack_143 0 rfl ?_
  refine pp_getR dX9_takeBack_144 ff_X9_45 (Or.inl ⟨_, rfl⟩) ho.1 (go_RF_ne ho.2.2.2.2.2.2.2.2.2.2.2.2.2.2.2 ((ho.2.2.2.2.2.2.2.2.2.2.2.2.2.1 10 (by decide)).trans rfl)) ?_
  refine go_iload_n dX9_takeBack_147 2 rfl ?_
  obtain ⟨μ21, hμ21, h⟩ := go_let_e h
  refine pp_putI dX9_takeBack_148 ff_X9_101 (Or.inl rfl) ho.2.1.1 hμ21 ?_
  refine go_iconst (v := 1) dX9_takeBack_151 (by decide) ?_
  cases h
  exact go_zret dX9_takeBack_152 rfl (Or.inr rfl) hK
set_option maxRecDepth 20000 in
set_option maxHeartbeats 4000000 in
theorem jqX9_takeBack_94 (w : go_Wd) (tx : Nat) (Q : Option Value → go_M → Prop) (μ : PM) (o : Nat) (ho : go_isV o) (v1 : Nat) (v2 : Int32) (v3 : Int32) (hv1 : go_isW v1)   (out : Int32 × PM) (h : jjX9_takeBack_94 μ o v1 v2 v3  = some out) (hK : Q (some (.int out.1)) (go_mk tx out.2)) : Go w 2 0 0 mtX9_takeBack 94 [(0, .ref o), (1, .ref v1), (2, .int v2), (3, .int v3)] [] (go_mk tx μ) (go_Z w Q) := by
  unfold jjX9_takeBack_94 at h
  refine go_aload_n dX9_takeBack_94 1 rfl ?_
  refine pp_getI dX9_takeBack_95 ff_X9_101 (by decide) hv1.1 ?_
  refine go_istore dX9_takeBack_98 (by decide) rfl ?_
  show Go w 2 0 0 mtX9_takeBack 100 [(4, .int (μ.1 v1 6)), (0, .ref o), (1, .ref v1), (2, .int v2), (3, .int v3)] [] (go_mk tx μ) (go_Z w Q)
  obtain ⟨ρ18, hρ18, h⟩ := go_bind h
  refine go_pick [1, 3, 4, 0] rfl ?_
  refine go_lp (G := ggX9_takeBack_100 w tx Q o v2 v3) (E := eeX9_takeBack_100 w tx Q o v2 v3) (fun s out h hK => lqX9_takeBack_100 w tx Q o ho v2 v3  s.1 s.2 out h hK) go_fuel ((μ.1 v1 6), μ) ρ18 hρ18 ?_
  rcases ρ18 with e19 | y
  · have h := go_csl h
    show Go w 2 0 0 mtX9_takeBack 135 [(0, .ref o), (2, .int v2), (3, .int v3)] [] (go_mk tx e19) (go_Z w Q)
    refine go_pick [0, 1, 2] rfl ?_
    exact jqX9_takeBack_135 w tx Q e19 o ho v2 v3    _ h hK
  · have h := go_csr h
    cases h
    exact hK
set_option maxRecDepth 20000 in
set_option maxHeartbeats 4000000 in
theorem cmX9_takeBack (w : go_Wd) (tx : Nat) (Q : Option Value → go_M → Prop) (μ : PM) (o : Nat) (ho : go_isV o) (out : Int32 × PM) (h : fX9_takeBack μ o = some out) (hK : Q (some (.int out.1)) (go_mk tx out.2)) : Go w 2 0 0 mtX9_takeBack 0 [(0, .ref o)] [] (go_mk tx μ) (go_Z w Q) := by
  unfold fX9_takeBack at h
  refine go_aload_n dX9_takeBack_0 0 rfl ?_
  refine pp_getR dX9_takeBack_1 ff_X9_52 (Or.inl ⟨_, rfl⟩) ho.1 (go_RF_ne ho.2.2.2.2.2.2.2.2.2.2.2.2.2.2.2 ho.2.2.2.2.2.2.2.2.2.2.2.2.2.2.1) ?_
  obtain ⟨q1, hq1, h⟩ := go_bind h
  refine pp_callV (as := []) (st := []) (rv := (some (go_on q1.1))) (μ1 := q1.2) (st1 := [go_on q1.1]) dX9_takeBack_4 ll_X9_94 ho.2.2.1.1 (by decide) rfl (ctX7_takeLatest ho.2.2.1 hq1) rfl (Nat.le_of_ble_eq_true rfl) (Nat.le_of_ble_eq_true rfl) (go_Z_up w _) rfl rfl ?_
  obtain ⟨x2, hx2, h⟩ := go_let_e h
  refine go_topo hx2 ?_
  refine go_astoreO dX9_takeBack_7 (by decide) rfl ?_
  show Go w 2 0 0 mtX9_takeBack 8 [(1, go_on x2), (0, .ref o)] [] (go_mk tx q1.2) (go_Z w Q)
  refine go_aloadO dX9_takeBack_8 0 rfl ?_
  rcases x2 with _ | q3
  · have h := go_opn h
    refine go_ifnonnullN dX9_takeBack_9 ?_
    refine go_iconst (v := 0) dX9_takeBack_12 (by decide) ?_
    cases h
    exact go_zret dX9_takeBack_13 rfl (Or.inl rfl) hK
  · have h := go_ops h
    have hq3 := (fun z hz => (opX7_takeLatest ho.2.2.1 hq1) z (hx2.symm.trans hz)) q3 rfl
    refine go_ifnonnull 14 dX9_takeBack_9 (by decide) ?_
    refine go_aload_n dX9_takeBack_14 1 rfl ?_
    refine pp_getR dX9_takeBack_15 ff_X9_45 (Or.inl ⟨_, rfl⟩) ho.1 (go_RF_ne ho.2.2.2.2.2.2.2.2.2.2.2.2.2.2.2 ((ho.2.2.2.2.2.2.2.2.2.2.2.2.2.1 10 (by decide)).trans rfl)) ?_
    refine pp_getI dX9_takeBack_18 ff_X9_98 (by decide) ho.2.1.1 ?_
    obtain ⟨x4, hx4, h⟩ := go_let_e h
    refine go_top hx4 ?_
    refine go_istore_n dX9_takeBack_21 (by decide) rfl ?_
    show Go w 2 0 0 mtX9_takeBack 22 [(2, .int x4), (1, .ref q3), (0, .ref o)] [] (go_mk tx q1.2) (go_Z w Q)
    refine go_aload_n dX9_takeBack_22 2 rfl ?_
    refine pp_getR dX9_takeBack_23 ff_X9_45 (Or.inl ⟨_, rfl⟩) ho.1 (go_RF_ne ho.2.2.2.2.2.2.2.2.2.2.2.2.2.2.2 ((ho.2.2.2.2.2.2.2.2.2.2.2.2.2.1 10 (by decide)).trans rfl)) ?_
    refine pp_getI dX9_takeBack_26 ff_X9_101 (by decide) ho.2.1.1 ?_
    obtain ⟨x5, hx5, h⟩ := go_let_e h
    refine go_top hx5 ?_
    refine go_istore_n dX9_takeBack_29 (by decide) rfl ?_
    show Go w 2 0 0 mtX9_takeBack 30 [(3, .int x5), (2, .int x4), (1, .ref q3), (0, .ref o)] [] (go_mk tx q1.2) (go_Z w Q)
    refine go_aload_n dX9_takeBack_30 3 rfl ?_
    refine pp_getR dX9_takeBack_31 ff_X9_45 (Or.inl ⟨_, rfl⟩) ho.1 (go_RF_ne ho.2.2.2.2.2.2.2.2.2.2.2.2.2.2.2 ((ho.2.2.2.2.2.2.2.2.2.2.2.2.2.1 10 (by decide)).trans rfl)) ?_
    refine go_aload_n dX9_takeBack_34 2 rfl ?_
    obtain ⟨q6, hq6, h⟩ := go_let_e h
    refine pp_callV (as := [.ref q3]) (st := []) (rv := none) (μ1 := q6) (st1 := []) dX9_takeBack_35 ll_X9_75 ho.2.1.1 (by decide) rfl (ctX10_become ho.2.1 (hq3) hq6.symm) rfl (Nat.le_of_ble_eq_true rfl) (Nat.le_of_ble_eq_true rfl) (go_Z_up w _) rfl rfl ?_
    refine go_aload_n dX9_takeBack_38 2 rfl ?_
    refine pp_getI dX9_takeBack_39 ff_X9_98 (by decide) (hq3).1 ?_
    refine go_istore dX9_takeBack_42 (by decide) rfl ?_
    show Go w 2 0 0 mtX9_takeBack 44 [(4, .int (q6.1 q3 5)), (3, .int x5), (2, .int x4), (1, .ref q3), (0, .ref o)] [] (go_mk tx q6) (go_Z w Q)
    obtain ⟨ρ13, hρ13, h⟩ := go_bind h
    refine go_pick [4, 3, 2, 1, 0] rfl ?_
    refine go_lp (G := ggX9_takeBack_44 w tx Q o q3 x4 x5) (E := eeX9_takeBack_44 w tx Q o q3 x4 x5) (fun s out h hK => lqX9_takeBack_44 w tx Q o ho q3 x4 x5 (hq3) s.1 s.2 out h hK) go_fuel ((q6.1 q3 5), q6) ρ13 hρ13 ?_
    rcases ρ13 with e14 | y
    · have h := go_csl h
      show Go w 2 0 0 mtX9_takeBack 94 [(0, .ref o), (1, .ref q3), (2, .int x4), (3, .int x5)] [] (go_mk tx e14) (go_Z w Q)
      refine go_pick [0, 1, 2, 3] rfl ?_
      exact jqX9_takeBack_94 w tx Q e14 o ho q3 x4 x5 (hq3)   _ h hK
    · have h := go_csr h
      cases h
      exact hK
theorem ctX9_takeBack {w : go_Wd} {tx : Nat} {μ : PM} {o : Nat} {r : Int32} {μ1 : PM} (ho : go_isV o) (h : fX9_takeBack μ o = some (r, μ1)) : Ct w 2 0 0 mtX9_takeBack [.ref o] (go_mk tx μ) (fun r' M' => r' = some (.int r) ∧ M' = go_mk tx μ1) :=
  go_entry rfl (by decide) (Nat.le_of_ble_eq_true rfl) (cmX9_takeBack w tx _ μ o ho _ h ⟨rfl, rfl⟩)
def fX10_isClaimed (μ : PM) (o : Nat) (a0 : Int32) : Option (Int32) :=
  (if a0 < 0 then some (0) else (if (μ.1 o 5) ≤ a0 then some (0) else (if 6 ≤ a0 then some (0) else go_chk a0 6 <| (if (μ.1 (o + 1) a0.toNatClampNeg) < 20 then some (0) else some (1)))))
set_option maxRecDepth 20000 in
set_option maxHeartbeats 4000000 in
theorem cmX10_isClaimed (w : go_Wd) (tx : Nat) (Q : Option Value → go_M → Prop) (μ : PM) (o : Nat) (a0 : Int32) (ho : go_isW o) (out : Int32) (h : fX10_isClaimed μ o a0 = some out) (hK : Q (some (.int out)) (go_mk tx μ)) : Go w 0 0 0 mtX10_isClaimed 0 [(0, .ref o), (1, .int a0)] [] (go_mk tx μ) (go_Z w Q) := by
  unfold fX10_isClaimed at h
  refine go_iload_n dX10_isClaimed_0 1 rfl ?_
  refine go_if_lt 33 dX10_isClaimed_1 (by decide) (fun hc => ?_) (fun hc => ?_)
  · have h := go_ifp hc h
    refine go_iconst (v := 0) dX10_isClaimed_33 (by decide) ?_
    cases h
    exact go_zret dX10_isClaimed_34 rfl (Or.inl rfl) hK
  · have h := go_ifn hc h
    refine go_iload_n dX10_isClaimed_4 1 rfl ?_
    refine go_aload_n dX10_isClaimed_5 0 rfl ?_
    refine pp_getI dX10_isClaimed_6 ff_X10_37 (by decide) ho.1 ?_
    refine go_icmp_ge 33 dX10_isClaimed_9 (by decide) (fun hc => ?_) (fun hc => ?_)
    · have h := go_ifp hc h
      refine go_iconst (v := 0) dX10_isClaimed_33 (by decide) ?_
      cases h
      exact go_zret dX10_isClaimed_34 rfl (Or.inl rfl) hK
    · have h := go_ifn hc h
      refine go_iload_n dX10_isClaimed_12 1 rfl ?_
      refine go_bipush (v := 6) dX10_isClaimed_13 (by decide) ?_
      refine go_icmp_ge 33 dX10_isClaimed_15 (by decide) (fun hc => ?_) (fun hc => ?_)
      · have h := go_ifp hc h
        refine go_iconst (v := 0) dX10_isClaimed_33 (by decide) ?_
        cases h
        exact go_zret dX10_isClaimed_34 rfl (Or.inl rfl) hK
      · have h := go_ifn hc h
        refine go_aload_n dX10_isClaimed_18 0 rfl ?_
        refine pp_getR dX10_isClaimed_19 ff_X10_9 (Or.inr ⟨_, rfl⟩) ho.1 (go_RF_ne ho.2.2.2.2.2.2.2.2.2 ho.2.2.2.2.2.1) ?_
        refine go_iload_n dX10_isClaimed_22 1 rfl ?_
        obtain ⟨hz1, h⟩ := go_chk_e h
        refine pp_ild dX10_isClaimed_23 ho.2.1 hz1 ?_
        refine go_bipush (v := 20) dX10_isClaimed_24 (by decide) ?_
        refine go_icmp_lt 33 dX10_isClaimed_26 (by decide) (fun hc => ?_) (fun hc => ?_)
        · have h := go_ifp hc h
          refine go_iconst (v := 0) dX10_isClaimed_33 (by decide) ?_
          cases h
          exact go_zret dX10_isClaimed_34 rfl (Or.inl rfl) hK
        · have h := go_ifn hc h
          refine go_iconst (v := 1) dX10_isClaimed_29 (by decide) ?_
          refine go_goto 34 dX10_isClaimed_30 (by decide) ?_
          cases h
          exact go_zret dX10_isClaimed_34 rfl (Or.inr rfl) hK
theorem ctX10_isClaimed {w : go_Wd} {tx : Nat} {μ : PM} {o : Nat} {a0 : Int32} {r : Int32} (ho : go_isW o) (h : fX10_isClaimed μ o a0 = some r) : Ct w 0 0 0 mtX10_isClaimed [.ref o, .int a0] (go_mk tx μ) (fun r' M' => r' = some (.int r) ∧ M' = go_mk tx μ) :=
  go_entry rfl (by decide) (Nat.le_of_ble_eq_true rfl) (cmX10_isClaimed w tx _ μ o a0 ho _ h ⟨rfl, rfl⟩)
def fX11_isCell (a0 : Int32) : Int32 :=
  (if a0 < 0 then 0 else (if 10 ≤ a0 then 0 else 1))
set_option maxRecDepth 20000 in
set_option maxHeartbeats 4000000 in
theorem cmX11_isCell (w : go_Wd) (tx : Nat) (Q : Option Value → go_M → Prop) (μ : PM) (a0 : Int32) (out : Int32) (h : fX11_isCell a0 = out) (hK : Q (some (.int out)) (go_mk tx μ)) : Go w 0 0 0 mtX11_isCell 0 [(0, .int a0)] [] (go_mk tx μ) (go_Z w Q) := by
  unfold fX11_isCell at h
  refine go_iload_n dX11_isCell_0 0 rfl ?_
  refine go_if_lt 14 dX11_isCell_1 (by decide) (fun hc => ?_) (fun hc => ?_)
  · have h := go_ifp hc h
    refine go_iconst (v := 0) dX11_isCell_14 (by decide) ?_
    subst h
    exact go_zret dX11_isCell_15 rfl (Or.inl rfl) hK
  · have h := go_ifn hc h
    refine go_iload_n dX11_isCell_4 0 rfl ?_
    refine go_bipush (v := 10) dX11_isCell_5 (by decide) ?_
    refine go_icmp_ge 14 dX11_isCell_7 (by decide) (fun hc => ?_) (fun hc => ?_)
    · have h := go_ifp hc h
      refine go_iconst (v := 0) dX11_isCell_14 (by decide) ?_
      subst h
      exact go_zret dX11_isCell_15 rfl (Or.inl rfl) hK
    · have h := go_ifn hc h
      refine go_iconst (v := 1) dX11_isCell_10 (by decide) ?_
      refine go_goto 15 dX11_isCell_11 (by decide) ?_
      subst h
      exact go_zret dX11_isCell_15 rfl (Or.inr rfl) hK
theorem ctX11_isCell {w : go_Wd} {tx : Nat} {μ : PM} {a0 : Int32} {r : Int32}  (h : fX11_isCell a0 = r) : Ct w 0 0 0 mtX11_isCell [.int a0] (go_mk tx μ) (fun r' M' => r' = some (.int r) ∧ M' = go_mk tx μ) :=
  go_entry rfl (by decide) (Nat.le_of_ble_eq_true rfl) (cmX11_isCell w tx _ μ a0 _ h ⟨rfl, rfl⟩)
theorem bzX11_isCell {a0 : Int32} {r : Int32} (h : fX11_isCell a0 = r) : r = 0 ∨ r = 1 := by
  subst h
  show go_bi _
  unfold fX11_isCell
  repeat' first | exact bi_0 | exact bi_1 | with_reducible apply bi_ite
def jjX10_cellOf_20 (μ : PM) (o : Nat) (a0 : Int32)  (s0 : Int32) : Option (Int32) :=
  (if (fX11_isCell s0) = 0 then some (0) else some (s0))
def jjX10_cellOf_19 (μ : PM) (o : Nat) (a0 : Int32)   : Option (Int32) :=
  jjX10_cellOf_20 μ o a0 ((-1))
def fX10_cellOf (μ : PM) (o : Nat) (a0 : Int32) : Option (Int32) :=
  (if a0 < 0 then jjX10_cellOf_19 μ o a0 else (if 6 ≤ a0 then jjX10_cellOf_19 μ o a0 else go_chk a0 6 <| jjX10_cellOf_20 μ o a0 ((μ.1 (o + 1) a0.toNatClampNeg))))
set_option maxRecDepth 20000 in
set_option maxHeartbeats 4000000 in
theorem jqX10_cellOf_20 (w : go_Wd) (tx : Nat) (Q : Option Value → go_M → Prop) (μ : PM) (o : Nat) (a0 : Int32) (ho : go_isW o)   (s0 : Int32)  (out : Int32) (h : jjX10_cellOf_20 μ o a0  s0 = some out) (hK : Q (some (.int out)) (go_mk tx μ)) : Go w 1 0 0 mtX10_cellOf 20 [] [.int s0] (go_mk tx μ) (go_Z w Q) := by
  unfold jjX10_cellOf_20 at h
  refine go_istore_n dX10_cellOf_20 (by decide) rfl ?_
  show Go w 1 0 0 mtX10_cellOf 21 [(2, .int s0)] [] (go_mk tx μ) (go_Z w Q)
  refine go_iload_n dX10_cellOf_21 0 rfl ?_
  refine pp_callSN (as := [.int s0]) (st := []) (rv := (some (.int (fX11_isCell s0)))) (μ1 := μ) (st1 := [.int (fX11_isCell s0)]) dX10_cellOf_22 ll_X10_55 (ctX11_isCell  rfl) rfl (Nat.le_of_ble_eq_true rfl) (Nat.le_of_ble_eq_true rfl) (go_Z_up w _) rfl rfl ?_
  refine go_if_eq 32 dX10_cellOf_25 (by decide) (fun hc => ?_) (fun hc => ?_)
  · have h := go_ifp hc h
    refine go_iconst (v := 0) dX10_cellOf_32 (by decide) ?_
    cases h
    exact go_iret dX10_cellOf_33 rfl hK
  · have h := go_ifn hc h
    refine go_iload_n dX10_cellOf_28 0 rfl ?_
    refine go_goto 33 dX10_cellOf_29 (by decide) ?_
    cases h
    exact go_iret dX10_cellOf_33 rfl hK
set_option maxRecDepth 20000 in
set_option maxHeartbeats 4000000 in
theorem jqX10_cellOf_19 (w : go_Wd) (tx : Nat) (Q : Option Value → go_M → Prop) (μ : PM) (o : Nat) (a0 : Int32) (ho : go_isW o)     (out : Int32) (h : jjX10_cellOf_19 μ o a0   = some out) (hK : Q (some (.int out)) (go_mk tx μ)) : Go w 1 0 0 mtX10_cellOf 19 [] [] (go_mk tx μ) (go_Z w Q) := by
  unfold jjX10_cellOf_19 at h
  refine go_iconst (v := (-1)) dX10_cellOf_19 (by decide) ?_
  refine go_pick [] rfl ?_
  exact jqX10_cellOf_20 w tx Q μ o a0 ho   ((-1))  _ h hK
set_option maxRecDepth 20000 in
set_option maxHeartbeats 4000000 in
theorem cmX10_cellOf (w : go_Wd) (tx : Nat) (Q : Option Value → go_M → Prop) (μ : PM) (o : Nat) (a0 : Int32) (ho : go_isW o) (out : Int32) (h : fX10_cellOf μ o a0 = some out) (hK : Q (some (.int out)) (go_mk tx μ)) : Go w 1 0 0 mtX10_cellOf 0 [(0, .ref o), (1, .int a0)] [] (go_mk tx μ) (go_Z w Q) := by
  unfold fX10_cellOf at h
  refine go_iload_n dX10_cellOf_0 1 rfl ?_
  refine go_if_lt 19 dX10_cellOf_1 (by decide) (fun hc => ?_) (fun hc => ?_)
  · have h := go_ifp hc h
    refine go_pick [] rfl ?_
    exact jqX10_cellOf_19 w tx Q μ o a0 ho     _ h hK
  · have h := go_ifn hc h
    refine go_iload_n dX10_cellOf_4 1 rfl ?_
    refine go_bipush (v := 6) dX10_cellOf_5 (by decide) ?_
    refine go_icmp_ge 19 dX10_cellOf_7 (by decide) (fun hc => ?_) (fun hc => ?_)
    · have h := go_ifp hc h
      refine go_pick [] rfl ?_
      exact jqX10_cellOf_19 w tx Q μ o a0 ho     _ h hK
    · have h := go_ifn hc h
      refine go_aload_n dX10_cellOf_10 0 rfl ?_
      refine pp_getR dX10_cellOf_11 ff_X10_9 (Or.inr ⟨_, rfl⟩) ho.1 (go_RF_ne ho.2.2.2.2.2.2.2.2.2 ho.2.2.2.2.2.1) ?_
      refine go_iload_n dX10_cellOf_14 1 rfl ?_
      obtain ⟨hz1, h⟩ := go_chk_e h
      refine pp_ild dX10_cellOf_15 ho.2.1 hz1 ?_
      refine go_goto 20 dX10_cellOf_16 (by decide) ?_
      refine go_pick [] rfl ?_
      exact jqX10_cellOf_20 w tx Q μ o a0 ho   ((μ.1 (o + 1) a0.toNatClampNeg))  _ h hK
theorem ctX10_cellOf {w : go_Wd} {tx : Nat} {μ : PM} {o : Nat} {a0 : Int32} {r : Int32} (ho : go_isW o) (h : fX10_cellOf μ o a0 = some r) : Ct w 1 0 0 mtX10_cellOf [.ref o, .int a0] (go_mk tx μ) (fun r' M' => r' = some (.int r) ∧ M' = go_mk tx μ) :=
  go_entry rfl (by decide) (Nat.le_of_ble_eq_true rfl) (cmX10_cellOf w tx _ μ o a0 ho _ h ⟨rfl, rfl⟩)
def lbX10_namesIn_4 (μ : PM) (o : Nat) (a0 : Int32)  (v2 : Int32) (v3 : Int32) : Option ((Int32 × Int32) ⊕ (Int32)) :=
  (if (μ.1 o 5) ≤ v3 then some (.inr (v2)) else (if 6 ≤ v3 then some (.inr (v2)) else go_chk v3 6 <| (if (μ.1 (o + 1) v3.toNatClampNeg) = a0 then go_let ((v2 ||| ((1 : Int32) <<< (v3 &&& 31)))) fun x2 => some (.inl (x2, (v3 + 1))) else some (.inl (v2, (v3 + 1))))))
def fX10_namesIn (μ : PM) (o : Nat) (a0 : Int32) : Option (Int32) :=
  ((lp (fun s => lbX10_namesIn_4 μ o a0 s.1 s.2) go_fuel (0, 0)).bind fun ρ3 => some ρ3)
def ggX10_namesIn_4 (w : go_Wd) (tx : Nat) (Q : Option Value → go_M → Prop) (μ : PM) (o : Nat) (a0 : Int32)  (s : Int32 × Int32) : Prop := Go w 0 0 0 mtX10_namesIn 4 [(0, .ref o), (1, .int a0), (2, .int s.1), (3, .int s.2)] [] (go_mk tx μ) (go_Z w Q)
def eeX10_namesIn_4 (w : go_Wd) (tx : Nat) (Q : Option Value → go_M → Prop) (μ : PM) (o : Nat) (a0 : Int32)  (y : Int32) : Prop := Q (some (.int y)) (go_mk tx μ)
set_option maxRecDepth 20000 in
set_option maxHeartbeats 4000000 in
theorem lqX10_namesIn_4 (w : go_Wd) (tx : Nat) (Q : Option Value → go_M → Prop) (μ : PM) (o : Nat) (a0 : Int32) (ho : go_isW o)   (v2 : Int32) (v3 : Int32) (out : (Int32 × Int32) ⊕ (Int32)) (h : lbX10_namesIn_4 μ o a0  v2 v3 = some out) (hK : go_out (ggX10_namesIn_4 w tx Q μ o a0 ) (eeX10_namesIn_4 w tx Q μ o a0 ) out) : ggX10_namesIn_4 w tx Q μ o a0  (v2, v3) := by
  unfold lbX10_namesIn_4 at h
  show Go w 0 0 0 mtX10_namesIn 4 [(0, .ref o), (1, .int a0), (2, .int v2), (3, .int v3)] [] (go_mk tx μ) (go_Z w Q)
  refine go_iload_n dX10_namesIn_4 3 rfl ?_
  refine go_aload_n dX10_namesIn_5 0 rfl ?_
  refine pp_getI dX10_namesIn_6 ff_X10_37 (by decide) ho.1 ?_
  refine go_icmp_ge 40 dX10_namesIn_9 (by decide) (fun hc => ?_) (fun hc => ?_)
  · have h := go_ifp hc h
    refine go_iload_n dX10_namesIn_40 2 rfl ?_
    cases h
    exact go_iret dX10_namesIn_41 rfl hK
  · have h := go_ifn hc h
    refine go_iload_n dX10_namesIn_12 3 rfl ?_
    refine go_bipush (v := 6) dX10_namesIn_13 (by decide) ?_
    refine go_icmp_ge 40 dX10_namesIn_15 (by decide) (fun hc => ?_) (fun hc => ?_)
    · have h := go_ifp hc h
      refine go_iload_n dX10_namesIn_40 2 rfl ?_
      cases h
      exact go_iret dX10_namesIn_41 rfl hK
    · have h := go_ifn hc h
      refine go_aload_n dX10_namesIn_18 0 rfl ?_
      refine pp_getR dX10_namesIn_19 ff_X10_9 (Or.inr ⟨_, rfl⟩) ho.1 (go_RF_ne ho.2.2.2.2.2.2.2.2.2 ho.2.2.2.2.2.1) ?_
      refine go_iload_n dX10_namesIn_22 3 rfl ?_
      obtain ⟨hz1, h⟩ := go_chk_e h
      refine pp_ild dX10_namesIn_23 ho.2.1 hz1 ?_
      refine go_iload_n dX10_namesIn_24 1 rfl ?_
      refine go_icmp_ne 34 dX10_namesIn_25 (by decide) (fun hc => ?_) (fun hc => ?_)
      · have h := go_ifn hc h
        refine go_iinc (v := (v3 + 1)) dX10_namesIn_34 3 rfl rfl (by decide) rfl ?_
        show Go w 0 0 0 mtX10_namesIn 37 [(3, .int (v3 + 1)), (0, .ref o), (1, .int a0), (2, .int v2)] [] (go_mk tx μ) (go_Z w Q)
        refine go_goto 4 dX10_namesIn_37 (by decide) ?_
        cases h
        have hK : Go w 0 0 0 mtX10_namesIn 4 [(0, .ref o), (1, .int a0), (2, .int v2), (3, .int (v3 + 1))] [] (go_mk tx μ) (go_Z w Q) := hK
        exact go_pick [1, 2, 3, 0] rfl hK
      · have h := go_ifp hc h
        refine go_iload_n dX10_namesIn_28 2 rfl ?_
        refine go_iconst (v := 1) dX10_namesIn_29 (by decide) ?_
        refine go_iload_n dX10_namesIn_30 3 rfl ?_
        refine go_ishl dX10_namesIn_31 ?_
        refine go_ior dX10_namesIn_32 ?_
        obtain ⟨x2, hx2, h⟩ := go_let_e h
        refine go_top hx2 ?_
        refine go_istore_n dX10_namesIn_33 (by decide) rfl ?_
        show Go w 0 0 0 mtX10_namesIn 34 [(2, .int x2), (0, .ref o), (1, .int a0), (3, .int v3)] [] (go_mk tx μ) (go_Z w Q)
        refine go_iinc (v := (v3 + 1)) dX10_namesIn_34 3 rfl rfl (by decide) rfl ?_
        show Go w 0 0 0 mtX10_namesIn 37 [(3, .int (v3 + 1)), (2, .int x2), (0, .ref o), (1, .int a0)] [] (go_mk tx μ) (go_Z w Q)
        refine go_goto 4 dX10_namesIn_37 (by decide) ?_
        cases h
        have hK : Go w 0 0 0 mtX10_namesIn 4 [(0, .ref o), (1, .int a0), (2, .int x2), (3, .int (v3 + 1))] [] (go_mk tx μ) (go_Z w Q) := hK
        exact go_pick [2, 3, 1, 0] rfl hK
set_option maxRecDepth 20000 in
set_option maxHeartbeats 4000000 in
theorem cmX10_namesIn (w : go_Wd) (tx : Nat) (Q : Option Value → go_M → Prop) (μ : PM) (o : Nat) (a0 : Int32) (ho : go_isW o) (out : Int32) (h : fX10_namesIn μ o a0 = some out) (hK : Q (some (.int out)) (go_mk tx μ)) : Go w 0 0 0 mtX10_namesIn 0 [(0, .ref o), (1, .int a0)] [] (go_mk tx μ) (go_Z w Q) := by
  unfold fX10_namesIn at h
  refine go_iconst (v := 0) dX10_namesIn_0 (by decide) ?_
  refine go_istore_n dX10_namesIn_1 (by decide) rfl ?_
  show Go w 0 0 0 mtX10_namesIn 2 [(2, .int 0), (0, .ref o), (1, .int a0)] [] (go_mk tx μ) (go_Z w Q)
  refine go_iconst (v := 0) dX10_namesIn_2 (by decide) ?_
  refine go_istore_n dX10_namesIn_3 (by decide) rfl ?_
  show Go w 0 0 0 mtX10_namesIn 4 [(3, .int 0), (2, .int 0), (0, .ref o), (1, .int a0)] [] (go_mk tx μ) (go_Z w Q)
  obtain ⟨ρ3, hρ3, h⟩ := go_bind h
  refine go_pick [2, 3, 1, 0] rfl ?_
  refine go_lp (G := ggX10_namesIn_4 w tx Q μ o a0 ) (E := eeX10_namesIn_4 w tx Q μ o a0 ) (fun s out h hK => lqX10_namesIn_4 w tx Q μ o a0 ho   s.1 s.2 out h hK) go_fuel (0, 0) ρ3 hρ3 ?_
  cases h
  exact hK
theorem ctX10_namesIn {w : go_Wd} {tx : Nat} {μ : PM} {o : Nat} {a0 : Int32} {r : Int32} (ho : go_isW o) (h : fX10_namesIn μ o a0 = some r) : Ct w 0 0 0 mtX10_namesIn [.ref o, .int a0] (go_mk tx μ) (fun r' M' => r' = some (.int r) ∧ M' = go_mk tx μ) :=
  go_entry rfl (by decide) (Nat.le_of_ble_eq_true rfl) (cmX10_namesIn w tx _ μ o a0 ho _ h ⟨rfl, rfl⟩)
def fX11_name (μ : PM) (a0 : Int32) (a1 : Int32) : Option (Int32 × PM) :=
  (fX11_countSounds a0).bind fun q1 => (if q1 = 0 then some (((-1), μ)) else (if a1 < 0 then some (((-1), μ)) else (if 10 ≤ a1 then some (((-1), μ)) else (if (μ.1 12 5) < 0 then some (((-1), μ)) else (if (μ.1 12 5) < 6 then go_chk (μ.1 12 5) 6 <| go_let (pm_wi μ 2 ((μ.1 12 5) : Int32).toNatClampNeg a0) fun μ2 => go_chk (μ.1 12 5) 6 <| go_let (pm_wi μ2 3 ((μ.1 12 5) : Int32).toNatClampNeg a1) fun μ4 => go_chk (μ.1 12 5) 6 <| go_let (pm_wi μ4 13 ((μ.1 12 5) : Int32).toNatClampNeg (-1)) fun μ6 => go_chk (μ.1 12 5) 6 <| go_let (pm_wi μ6 14 ((μ.1 12 5) : Int32).toNatClampNeg q1) fun μ8 => go_let (pm_wi μ8 12 5 ((μ8.1 12 5) + 1)) fun μ10 => some (((μ.1 12 5), μ10)) else some (((-1), μ)))))))
set_option maxRecDepth 20000 in
set_option maxHeartbeats 4000000 in
theorem cmX11_name (w : go_Wd) (tx : Nat) (Q : Option Value → go_M → Prop) (μ : PM) (a0 : Int32) (a1 : Int32) (out : Int32 × PM) (h : fX11_name μ a0 a1 = some out) (hK : Q (some (.int out.1)) (go_mk tx out.2)) : Go w 1 0 0 mtX11_name 0 [(0, .ref 0), (1, .int a0), (2, .int a1)] [] (go_mk tx μ) (go_Z w Q) := by
  unfold fX11_name at h
  refine go_iload_n dX11_name_0 1 rfl ?_
  obtain ⟨q1, hq1, h⟩ := go_bind h
  refine pp_callS (as := [.int a0]) (st := []) (rv := (some (.int q1))) (μ1 := μ) (st1 := [.int q1]) dX11_name_1 ll_X11_102 (ctX11_countSounds  hq1) rfl (Nat.le_of_ble_eq_true rfl) (Nat.le_of_ble_eq_true rfl) (go_Z_up w _) rfl rfl ?_
  refine go_istore_n dX11_name_4 (by decide) rfl ?_
  show Go w 1 0 0 mtX11_name 5 [(3, .int q1), (0, .ref 0), (1, .int a0), (2, .int a1)] [] (go_mk tx μ) (go_Z w Q)
  refine go_aload_n dX11_name_5 1 rfl ?_
  refine pp_getR dX11_name_6 ff_X11_20 (Or.inl ⟨_, rfl⟩) sh_0 rf_0_1 ?_
  refine pp_getI dX11_name_9 ff_X11_106 (by decide) go_isW_12.1 ?_
  refine go_istore dX11_name_12 (by decide) rfl ?_
  show Go w 1 0 0 mtX11_name 14 [(4, .int (μ.1 12 5)), (3, .int q1), (0, .ref 0), (1, .int a0), (2, .int a1)] [] (go_mk tx μ) (go_Z w Q)
  refine go_iload_n dX11_name_14 1 rfl ?_
  refine go_if_eq 40 dX11_name_15 (by decide) (fun hc => ?_) (fun hc => ?_)
  · have h := go_ifp hc h
    refine go_iconst (v := (-1)) dX11_name_40 (by decide) ?_
    cases h
    exact go_iret dX11_name_41 rfl hK
  · have h := go_ifn hc h
    refine go_iload_n dX11_name_18 4 rfl ?_
    refine go_if_lt 40 dX11_name_19 (by decide) (fun hc => ?_) (fun hc => ?_)
    · have h := go_ifp hc h
      refine go_iconst (v := (-1)) dX11_name_40 (by decide) ?_
      cases h
      exact go_iret dX11_name_41 rfl hK
    · have h := go_ifn hc h
      refine go_iload_n dX11_name_22 4 rfl ?_
      refine go_bipush (v := 10) dX11_name_23 (by decide) ?_
      refine go_icmp_ge 40 dX11_name_25 (by decide) (fun hc => ?_) (fun hc => ?_)
      · have h := go_ifp hc h
        refine go_iconst (v := (-1)) dX11_name_40 (by decide) ?_
        cases h
        exact go_iret dX11_name_41 rfl hK
      · have h := go_ifn hc h
        refine go_iload dX11_name_28 0 rfl ?_
        refine go_if_lt 40 dX11_name_30 (by decide) (fun hc => ?_) (fun hc => ?_)
        · have h := go_ifp hc h
          refine go_iconst (v := (-1)) dX11_name_40 (by decide) ?_
          cases h
          exact go_iret dX11_name_41 rfl hK
        · have h := go_ifn hc h
          refine go_iload dX11_name_33 0 rfl ?_
          refine go_bipush (v := 6) dX11_name_35 (by decide) ?_
          refine go_icmp_lt 42 dX11_name_37 (by decide) (fun hc => ?_) (fun hc => ?_)
          · have h := go_ifp hc h
            refine go_aload_n dX11_name_42 2 rfl ?_
            refine pp_getR dX11_name_43 ff_X11_10 (Or.inl ⟨_, rfl⟩) sh_0 rf_0_0 ?_
            refine pp_getR dX11_name_46 ff_X11_109 (Or.inr ⟨_, rfl⟩) go_isV_1.1 rf_1_0 ?_
            refine go_iload dX11_name_49 0 rfl ?_
            refine go_iload_n dX11_name_51 3 rfl ?_
            obtain ⟨hz3, h⟩ := go_chk_e h
            obtain ⟨μ2, hμ2, h⟩ := go_let_e h
            refine pp_ist dX11_name_52 sh_2 hz3 hμ2 ?_
            refine go_aload_n dX11_name_53 2 rfl ?_
            refine pp_getR dX11_name_54 ff_X11_10 (Or.inl ⟨_, rfl⟩) sh_0 rf_0_0 ?_
            refine pp_getR dX11_name_57 ff_X11_112 (Or.inr ⟨_, rfl⟩) go_isV_1.1 rf_1_1 ?_
            refine go_iload dX11_name_60 0 rfl ?_
            refine go_iload_n dX11_name_62 4 rfl ?_
            obtain ⟨hz5, h⟩ := go_chk_e h
            obtain ⟨μ4, hμ4, h⟩ := go_let_e h
            refine pp_ist dX11_name_63 sh_3 hz5 hμ4 ?_
            refine go_aload_n dX11_name_64 2 rfl ?_
            refine pp_getR dX11_name_65 ff_X11_20 (Or.inl ⟨_, rfl⟩) sh_0 rf_0_1 ?_
            refine pp_getR dX11_name_68 ff_X11_115 (Or.inr ⟨_, rfl⟩) go_isW_12.1 rf_12_0 ?_
            refine go_iload dX11_name_71 0 rfl ?_
            refine go_iconst (v := (-1)) dX11_name_73 (by decide) ?_
            obtain ⟨hz7, h⟩ := go_chk_e h
            obtain ⟨μ6, hμ6, h⟩ := go_let_e h
            refine pp_ist dX11_name_74 sh_13 hz7 hμ6 ?_
            refine go_aload_n dX11_name_75 2 rfl ?_
            refine pp_getR dX11_name_76 ff_X11_20 (Or.inl ⟨_, rfl⟩) sh_0 rf_0_1 ?_
            refine pp_getR dX11_name_79 ff_X11_118 (Or.inr ⟨_, rfl⟩) go_isW_12.1 rf_12_1 ?_
            refine go_iload dX11_name_82 0 rfl ?_
            refine go_iload_n dX11_name_84 1 rfl ?_
            obtain ⟨hz9, h⟩ := go_chk_e h
            obtain ⟨μ8, hμ8, h⟩ := go_let_e h
            refine pp_ist dX11_name_85 sh_14 hz9 hμ8 ?_
            refine go_aload_n dX11_name_86 2 rfl ?_
            refine pp_getR dX11_name_87 ff_X11_20 (Or.inl ⟨_, rfl⟩) sh_0 rf_0_1 ?_
            refine go_dup dX11_name_90 rfl ?_
            refine pp_getI dX11_name_91 ff_X11_106 (by decide) go_isW_12.1 ?_
            refine go_iconst (v := 1) dX11_name_94 (by decide) ?_
            refine go_iadd dX11_name_95 ?_
            obtain ⟨μ10, hμ10, h⟩ := go_let_e h
            refine pp_putI dX11_name_96 ff_X11_106 (Or.inl rfl) go_isW_12.1 hμ10 ?_
            refine go_iload dX11_name_99 0 rfl ?_
            cases h
            exact go_iret dX11_name_101 rfl hK
          · have h := go_ifn hc h
            refine go_iconst (v := (-1)) dX11_name_40 (by decide) ?_
            cases h
            exact go_iret dX11_name_41 rfl hK
theorem ctX11_name {w : go_Wd} {tx : Nat} {μ : PM} {a0 : Int32} {a1 : Int32} {r : Int32} {μ1 : PM}  (h : fX11_name μ a0 a1 = some (r, μ1)) : Ct w 1 0 0 mtX11_name [.ref 0, .int a0, .int a1] (go_mk tx μ) (fun r' M' => r' = some (.int r) ∧ M' = go_mk tx μ1) :=
  go_entry rfl (by decide) (Nat.le_of_ble_eq_true rfl) (cmX11_name w tx _ μ a0 a1 _ h ⟨rfl, rfl⟩)
def fX11_family (μ : PM) (a0 : Int32) (a1 : Int32) : Option (Int32 × PM) :=
  (if a0 < 1 then some (((-1), μ)) else (if 9 < a0 then some (((-1), μ)) else (if (fX11_isCell a1) = 0 then some (((-1), μ)) else (if (μ.1 12 6) < 0 then some (((-1), μ)) else (if (μ.1 12 6) < 5 then go_chk (μ.1 12 6) 5 <| go_let (pm_wi μ 4 ((μ.1 12 6) : Int32).toNatClampNeg a0) fun μ1 => go_chk (μ.1 12 6) 5 <| go_let (pm_wi μ1 5 ((μ.1 12 6) : Int32).toNatClampNeg a1) fun μ3 => go_chk (μ.1 12 6) 5 <| go_let (pm_wi μ3 15 ((μ.1 12 6) : Int32).toNatClampNeg a1) fun μ5 => go_let (pm_wi μ5 12 6 ((μ5.1 12 6) + 1)) fun μ7 => some (((μ.1 12 6), μ7)) else some (((-1), μ)))))))
set_option maxRecDepth 20000 in
set_option maxHeartbeats 4000000 in
theorem cmX11_family (w : go_Wd) (tx : Nat) (Q : Option Value → go_M → Prop) (μ : PM) (a0 : Int32) (a1 : Int32) (out : Int32 × PM) (h : fX11_family μ a0 a1 = some out) (hK : Q (some (.int out.1)) (go_mk tx out.2)) : Go w 1 0 0 mtX11_family 0 [(0, .ref 0), (1, .int a0), (2, .int a1)] [] (go_mk tx μ) (go_Z w Q) := by
  unfold fX11_family at h
  refine go_aload_n dX11_family_0 0 rfl ?_
  refine pp_getR dX11_family_1 ff_X11_20 (Or.inl ⟨_, rfl⟩) sh_0 rf_0_1 ?_
  refine pp_getI dX11_family_4 ff_X11_121 (by decide) go_isW_12.1 ?_
  refine go_istore_n dX11_family_7 (by decide) rfl ?_
  show Go w 1 0 0 mtX11_family 8 [(3, .int (μ.1 12 6)), (0, .ref 0), (1, .int a0), (2, .int a1)] [] (go_mk tx μ) (go_Z w Q)
  refine go_iload_n dX11_family_8 2 rfl ?_
  refine go_iconst (v := 1) dX11_family_9 (by decide) ?_
  refine go_icmp_lt 35 dX11_family_10 (by decide) (fun hc => ?_) (fun hc => ?_)
  · have h := go_ifp hc h
    refine go_iconst (v := (-1)) dX11_family_35 (by decide) ?_
    cases h
    exact go_iret dX11_family_36 rfl hK
  · have h := go_ifn hc h
    refine go_iload_n dX11_family_13 2 rfl ?_
    refine go_bipush (v := 9) dX11_family_14 (by decide) ?_
    refine go_icmp_gt 35 dX11_family_16 (by decide) (fun hc => ?_) (fun hc => ?_)
    · have h := go_ifp hc h
      refine go_iconst (v := (-1)) dX11_family_35 (by decide) ?_
      cases h
      exact go_iret dX11_family_36 rfl hK
    · have h := go_ifn hc h
      refine go_iload_n dX11_family_19 3 rfl ?_
      refine pp_callS (as := [.int a1]) (st := []) (rv := (some (.int (fX11_isCell a1)))) (μ1 := μ) (st1 := [.int (fX11_isCell a1)]) dX11_family_20 ll_X11_124 (ctX11_isCell  rfl) rfl (Nat.le_of_ble_eq_true rfl) (Nat.le_of_ble_eq_true rfl) (go_Z_up w _) rfl rfl ?_
      refine go_if_eq 35 dX11_family_23 (by decide) (fun hc => ?_) (fun hc => ?_)
      · have h := go_ifp hc h
        refine go_iconst (v := (-1)) dX11_family_35 (by decide) ?_
        cases h
        exact go_iret dX11_family_36 rfl hK
      · have h := go_ifn hc h
        refine go_iload_n dX11_family_26 0 rfl ?_
        refine go_if_lt 35 dX11_family_27 (by decide) (fun hc => ?_) (fun hc => ?_)
        · have h := go_ifp hc h
          refine go_iconst (v := (-1)) dX11_family_35 (by decide) ?_
          cases h
          exact go_iret dX11_family_36 rfl hK
        · have h := go_ifn hc h
          refine go_iload_n dX11_family_30 0 rfl ?_
          refine go_iconst (v := 5) dX11_family_31 (by decide) ?_
          refine go_icmp_lt 37 dX11_family_32 (by decide) (fun hc => ?_) (fun hc => ?_)
          · have h := go_ifp hc h
            refine go_aload_n dX11_family_37 1 rfl ?_
            refine pp_getR dX11_family_38 ff_X11_10 (Or.inl ⟨_, rfl⟩) sh_0 rf_0_0 ?_
            refine pp_getR dX11_family_41 ff_X11_128 (Or.inr ⟨_, rfl⟩) go_isV_1.1 rf_1_2 ?_
            refine go_iload_n dX11_family_44 0 rfl ?_
            refine go_iload_n dX11_family_45 2 rfl ?_
            obtain ⟨hz2, h⟩ := go_chk_e h
            obtain ⟨μ1, hμ1, h⟩ := go_let_e h
            refine pp_ist dX11_family_46 sh_4 hz2 hμ1 ?_
            refine go_aload_n dX11_family_47 1 rfl ?_
            refine pp_getR dX11_family_48 ff_X11_10 (Or.inl ⟨_, rfl⟩) sh_0 rf_0_0 ?_
            refine pp_getR dX11_family_51 ff_X11_131 (Or.inr ⟨_, rfl⟩) go_isV_1.1 rf_1_3 ?_
            refine go_iload_n dX11_family_54 0 rfl ?_
            refine go_iload_n dX11_family_55 3 rfl ?_
            obtain ⟨hz4, h⟩ := go_chk_e h
            obtain ⟨μ3, hμ3, h⟩ := go_let_e h
            refine pp_ist dX11_family_56 sh_5 hz4 hμ3 ?_
            refine go_aload_n dX11_family_57 1 rfl ?_
            refine pp_getR dX11_family_58 ff_X11_20 (Or.inl ⟨_, rfl⟩) sh_0 rf_0_1 ?_
            refine pp_getR dX11_family_61 ff_X11_134 (Or.inr ⟨_, rfl⟩) go_isW_12.1 rf_12_2 ?_
            refine go_iload_n dX11_family_64 0 rfl ?_
            refine go_iload_n dX11_family_65 3 rfl ?_
            obtain ⟨hz6, h⟩ := go_chk_e h
            obtain ⟨μ5, hμ5, h⟩ := go_let_e h
            refine pp_ist dX11_family_66 sh_15 hz6 hμ5 ?_
            refine go_aload_n dX11_family_67 1 rfl ?_
            refine pp_getR dX11_family_68 ff_X11_20 (Or.inl ⟨_, rfl⟩) sh_0 rf_0_1 ?_
            refine go_dup dX11_family_71 rfl ?_
            refine pp_getI dX11_family_72 ff_X11_121 (by decide) go_isW_12.1 ?_
            refine go_iconst (v := 1) dX11_family_75 (by decide) ?_
            refine go_iadd dX11_family_76 ?_
            obtain ⟨μ7, hμ7, h⟩ := go_let_e h
            refine pp_putI dX11_family_77 ff_X11_121 (Or.inl rfl) go_isW_12.1 hμ7 ?_
            refine go_iload_n dX11_family_80 0 rfl ?_
            cases h
            exact go_iret dX11_family_81 rfl hK
          · have h := go_ifn hc h
            refine go_iconst (v := (-1)) dX11_family_35 (by decide) ?_
            cases h
            exact go_iret dX11_family_36 rfl hK
theorem ctX11_family {w : go_Wd} {tx : Nat} {μ : PM} {a0 : Int32} {a1 : Int32} {r : Int32} {μ1 : PM}  (h : fX11_family μ a0 a1 = some (r, μ1)) : Ct w 1 0 0 mtX11_family [.ref 0, .int a0, .int a1] (go_mk tx μ) (fun r' M' => r' = some (.int r) ∧ M' = go_mk tx μ1) :=
  go_entry rfl (by decide) (Nat.le_of_ble_eq_true rfl) (cmX11_family w tx _ μ a0 a1 _ h ⟨rfl, rfl⟩)
def fX11_eddy (μ : PM) (a0 : Int32) (a1 : Int32) : Int32 × PM :=
  (if (fX11_isCell a0) = 0 then (0, μ) else (if a1 = 0 then go_let (pm_wi μ 1 12 ((μ.1 1 12) &&& (((1 : Int32) <<< (a0 &&& 31)) ^^^ (-1)))) fun μ1 => (1, μ1) else go_let (pm_wi μ 1 12 ((μ.1 1 12) ||| ((1 : Int32) <<< (a0 &&& 31)))) fun μ2 => (1, μ2)))
set_option maxRecDepth 20000 in
set_option maxHeartbeats 4000000 in
theorem cmX11_eddy (w : go_Wd) (tx : Nat) (Q : Option Value → go_M → Prop) (μ : PM) (a0 : Int32) (a1 : Int32) (out : Int32 × PM) (h : fX11_eddy μ a0 a1 = out) (hK : Q (some (.int out.1)) (go_mk tx out.2)) : Go w 1 0 0 mtX11_eddy 0 [(0, .ref 0), (1, .int a0), (2, .int a1)] [] (go_mk tx μ) (go_Z w Q) := by
  unfold fX11_eddy at h
  refine go_iload_n dX11_eddy_0 1 rfl ?_
  refine pp_callS (as := [.int a0]) (st := []) (rv := (some (.int (fX11_isCell a0)))) (μ1 := μ) (st1 := [.int (fX11_isCell a0)]) dX11_eddy_1 ll_X11_124 (ctX11_isCell  rfl) rfl (Nat.le_of_ble_eq_true rfl) (Nat.le_of_ble_eq_true rfl) (go_Z_up w _) rfl rfl ?_
  refine go_if_ne 9 dX11_eddy_4 (by decide) (fun hc => ?_) (fun hc => ?_)
  · have h := go_ifn hc h
    refine go_aload_n dX11_eddy_9 0 rfl ?_
    refine pp_getR dX11_eddy_10 ff_X11_10 (Or.inl ⟨_, rfl⟩) sh_0 rf_0_0 ?_
    refine go_iload_n dX11_eddy_13 2 rfl ?_
    refine go_if_eq 31 dX11_eddy_14 (by decide) (fun hc => ?_) (fun hc => ?_)
    · have h := go_ifp hc h
      refine go_aload_n dX11_eddy_31 0 rfl ?_
      refine pp_getR dX11_eddy_32 ff_X11_10 (Or.inl ⟨_, rfl⟩) sh_0 rf_0_0 ?_
      refine pp_getI dX11_eddy_35 ff_X11_137 (by decide) go_isV_1.1 ?_
      refine go_iconst (v := 1) dX11_eddy_38 (by decide) ?_
      refine go_iload_n dX11_eddy_39 1 rfl ?_
      refine go_ishl dX11_eddy_40 ?_
      refine go_iconst (v := (-1)) dX11_eddy_41 (by decide) ?_
      refine go_ixor dX11_eddy_42 ?_
      refine go_iand dX11_eddy_43 ?_
      obtain ⟨μ1, hμ1, h⟩ := go_let_e h
      refine pp_putI dX11_eddy_44 ff_X11_137 (Or.inl rfl) go_isV_1.1 hμ1 ?_
      refine go_iconst (v := 1) dX11_eddy_47 (by decide) ?_
      subst h
      exact go_zret dX11_eddy_48 rfl (Or.inr rfl) hK
    · have h := go_ifn hc h
      refine go_aload_n dX11_eddy_17 0 rfl ?_
      refine pp_getR dX11_eddy_18 ff_X11_10 (Or.inl ⟨_, rfl⟩) sh_0 rf_0_0 ?_
      refine pp_getI dX11_eddy_21 ff_X11_137 (by decide) go_isV_1.1 ?_
      refine go_iconst (v := 1) dX11_eddy_24 (by decide) ?_
      refine go_iload_n dX11_eddy_25 1 rfl ?_
      refine go_ishl dX11_eddy_26 ?_
      refine go_ior dX11_eddy_27 ?_
      refine go_goto 44 dX11_eddy_28 (by decide) ?_
      obtain ⟨μ2, hμ2, h⟩ := go_let_e h
      refine pp_putI dX11_eddy_44 ff_X11_137 (Or.inl rfl) go_isV_1.1 hμ2 ?_
      refine go_iconst (v := 1) dX11_eddy_47 (by decide) ?_
      subst h
      exact go_zret dX11_eddy_48 rfl (Or.inr rfl) hK
  · have h := go_ifp hc h
    refine go_iconst (v := 0) dX11_eddy_7 (by decide) ?_
    subst h
    exact go_zret dX11_eddy_8 rfl (Or.inl rfl) hK
theorem ctX11_eddy {w : go_Wd} {tx : Nat} {μ : PM} {a0 : Int32} {a1 : Int32} {r : Int32} {μ1 : PM}  (h : fX11_eddy μ a0 a1 = (r, μ1)) : Ct w 1 0 0 mtX11_eddy [.ref 0, .int a0, .int a1] (go_mk tx μ) (fun r' M' => r' = some (.int r) ∧ M' = go_mk tx μ1) :=
  go_entry rfl (by decide) (Nat.le_of_ble_eq_true rfl) (cmX11_eddy w tx _ μ a0 a1 _ h ⟨rfl, rfl⟩)
def lbX11_putFour_3 (a0 : Int32)  (v2 : Int32) (μ : PM) : Option ((Int32 × PM) ⊕ (PM)) :=
  (if v2 < 0 then some (.inr (μ)) else (if (μ.1 0 13) < 0 then some (.inl ((v2 + (-8)), μ)) else (if 300 ≤ (μ.1 0 13) then some (.inl ((v2 + (-8)), μ)) else go_chk (μ.1 0 13) 300 <| go_let (pm_wi μ 371 ((μ.1 0 13) : Int32).toNatClampNeg ((jushr a0 v2) &&& 255)) fun μ1 => go_let (pm_wi μ1 0 13 ((μ1.1 0 13) + 1)) fun μ3 => some (.inl ((v2 + (-8)), μ3)))))
def fX11_putFour (μ : PM) (a0 : Int32) : Option (PM) :=
  ((lp (fun s => lbX11_putFour_3 a0 s.1 s.2) go_fuel (24, μ)).bind fun ρ4 => some ρ4)
def ggX11_putFour_3 (w : go_Wd) (tx : Nat) (Q : Option Value → go_M → Prop) (a0 : Int32)  (s : Int32 × PM) : Prop := Go w 0 0 0 mtX11_putFour 3 [(0, .ref 0), (1, .int a0), (2, .int s.1)] [] (go_mk tx s.2) (go_Z w Q)
def eeX11_putFour_3 (w : go_Wd) (tx : Nat) (Q : Option Value → go_M → Prop) (a0 : Int32)  (y : PM) : Prop := Q none (go_mk tx y)
set_option maxRecDepth 20000 in
set_option maxHeartbeats 4000000 in
theorem lqX11_putFour_3 (w : go_Wd) (tx : Nat) (Q : Option Value → go_M → Prop) (a0 : Int32)   (v2 : Int32) (μ : PM) (out : (Int32 × PM) ⊕ (PM)) (h : lbX11_putFour_3 a0  v2 μ = some out) (hK : go_out (ggX11_putFour_3 w tx Q a0 ) (eeX11_putFour_3 w tx Q a0 ) out) : ggX11_putFour_3 w tx Q a0  (v2, μ) := by
  unfold lbX11_putFour_3 at h
  show Go w 0 0 0 mtX11_putFour 3 [(0, .ref 0), (1, .int a0), (2, .int v2)] [] (go_mk tx μ) (go_Z w Q)
  refine go_iload_n dX11_putFour_3 2 rfl ?_
  refine go_if_lt 56 dX11_putFour_4 (by decide) (fun hc => ?_) (fun hc => ?_)
  · have h := go_ifp hc h
    cases h
    exact go_vret dX11_putFour_56 rfl hK
  · have h := go_ifn hc h
    refine go_aload_n dX11_putFour_7 0 rfl ?_
    refine pp_getI dX11_putFour_8 ff_X11_140 (by decide) sh_0 ?_
    refine go_if_lt 50 dX11_putFour_11 (by decide) (fun hc => ?_) (fun hc => ?_)
    · have h := go_ifp hc h
      refine go_iinc (v := (v2 + (-8))) dX11_putFour_50 2 rfl rfl (by decide) rfl ?_
      show Go w 0 0 0 mtX11_putFour 53 [(2, .int (v2 + (-8))), (0, .ref 0), (1, .int a0)] [] (go_mk tx μ) (go_Z w Q)
      refine go_goto 3 dX11_putFour_53 (by decide) ?_
      cases h
      have hK : Go w 0 0 0 mtX11_putFour 3 [(0, .ref 0), (1, .int a0), (2, .int (v2 + (-8)))] [] (go_mk tx μ) (go_Z w Q) := hK
      exact go_pick [1, 2, 0] rfl hK
    · have h := go_ifn hc h
      refine go_aload_n dX11_putFour_14 0 rfl ?_
      refine pp_getI dX11_putFour_15 ff_X11_140 (by decide) sh_0 ?_
      refine go_sipush (v := 300) dX11_putFour_18 (by decide) ?_
      refine go_icmp_ge 50 dX11_putFour_21 (by decide) (fun hc => ?_) (fun hc => ?_)
      · have h := go_ifp hc h
        refine go_iinc (v := (v2 + (-8))) dX11_putFour_50 2 rfl rfl (by decide) rfl ?_
        show Go w 0 0 0 mtX11_putFour 53 [(2, .int (v2 + (-8))), (0, .ref 0), (1, .int a0)] [] (go_mk tx μ) (go_Z w Q)
        refine go_goto 3 dX11_putFour_53 (by decide) ?_
        cases h
        have hK : Go w 0 0 0 mtX11_putFour 3 [(0, .ref 0), (1, .int a0), (2, .int (v2 + (-8)))] [] (go_mk tx μ) (go_Z w Q) := hK
        exact go_pick [1, 2, 0] rfl hK
      · have h := go_ifn hc h
        refine go_aload_n dX11_putFour_24 0 rfl ?_
        refine pp_getR dX11_putFour_25 ff_X11_37 (Or.inr ⟨_, rfl⟩) sh_0 rf_0_5 ?_
        refine go_aload_n dX11_putFour_28 0 rfl ?_
        refine pp_getI dX11_putFour_29 ff_X11_140 (by decide) sh_0 ?_
        refine go_iload_n dX11_putFour_32 1 rfl ?_
        refine go_iload_n dX11_putFour_33 2 rfl ?_
        refine go_iushr (v := (jushr a0 v2)) dX11_putFour_34 rfl ?_
        refine go_sipush (v := 255) dX11_putFour_35 (by decide) ?_
        refine go_iand dX11_putFour_38 ?_
        obtain ⟨hz2, h⟩ := go_chk_e h
        obtain ⟨μ1, hμ1, h⟩ := go_let_e h
        refine pp_ist dX11_putFour_39 sh_371 hz2 hμ1 ?_
        refine go_aload_n dX11_putFour_40 0 rfl ?_
        refine go_dup dX11_putFour_41 rfl ?_
        refine pp_getI dX11_putFour_42 ff_X11_140 (by decide) sh_0 ?_
        refine go_iconst (v := 1) dX11_putFour_45 (by decide) ?_
        refine go_iadd dX11_putFour_46 ?_
        obtain ⟨μ3, hμ3, h⟩ := go_let_e h
        refine pp_putI dX11_putFour_47 ff_X11_140 (Or.inl rfl) sh_0 hμ3 ?_
        refine go_iinc (v := (v2 + (-8))) dX11_putFour_50 2 rfl rfl (by decide) rfl ?_
        show Go w 0 0 0 mtX11_putFour 53 [(2, .int (v2 + (-8))), (0, .ref 0), (1, .int a0)] [] (go_mk tx μ3) (go_Z w Q)
        refine go_goto 3 dX11_putFour_53 (by decide) ?_
        cases h
        have hK : Go w 0 0 0 mtX11_putFour 3 [(0, .ref 0), (1, .int a0), (2, .int (v2 + (-8)))] [] (go_mk tx μ3) (go_Z w Q) := hK
        exact go_pick [1, 2, 0] rfl hK
set_option maxRecDepth 20000 in
set_option maxHeartbeats 4000000 in
theorem cmX11_putFour (w : go_Wd) (tx : Nat) (Q : Option Value → go_M → Prop) (μ : PM) (a0 : Int32) (out : PM) (h : fX11_putFour μ a0 = some out) (hK : Q none (go_mk tx out)) : Go w 0 0 0 mtX11_putFour 0 [(0, .ref 0), (1, .int a0)] [] (go_mk tx μ) (go_Z w Q) := by
  unfold fX11_putFour at h
  refine go_bipush (v := 24) dX11_putFour_0 (by decide) ?_
  refine go_istore_n dX11_putFour_2 (by decide) rfl ?_
  show Go w 0 0 0 mtX11_putFour 3 [(2, .int 24), (0, .ref 0), (1, .int a0)] [] (go_mk tx μ) (go_Z w Q)
  obtain ⟨ρ4, hρ4, h⟩ := go_bind h
  refine go_pick [1, 2, 0] rfl ?_
  refine go_lp (G := ggX11_putFour_3 w tx Q a0 ) (E := eeX11_putFour_3 w tx Q a0 ) (fun s out h hK => lqX11_putFour_3 w tx Q a0   s.1 s.2 out h hK) go_fuel (24, μ) ρ4 hρ4 ?_
  cases h
  exact hK
theorem ctX11_putFour {w : go_Wd} {tx : Nat} {μ : PM} {a0 : Int32} {μ1 : PM}  (h : fX11_putFour μ a0 = some μ1) : Ct w 0 0 0 mtX11_putFour [.ref 0, .int a0] (go_mk tx μ) (fun r' M' => r' = none ∧ M' = go_mk tx μ1) :=
  go_entry rfl (by decide) (Nat.le_of_ble_eq_true rfl) (cmX11_putFour w tx _ μ a0 _ h ⟨rfl, rfl⟩)
def fX11_feed (μ : PM) (a0 : Int32) (a1 : Int32) (a2 : Int32) (a3 : Int32) (a4 : Int32) : Option (Int32 × PM) :=
  (if ((μ.1 0 13) + 20) ≤ 300 then (fX11_putFour μ a0).bind fun q1 => (fX11_putFour q1 a1).bind fun q2 => (fX11_putFour q2 a2).bind fun q3 => (fX11_putFour q3 a3).bind fun q4 => (fX11_putFour q4 a4).bind fun q5 => some (((q5.1 0 13), q5)) else some (((-1), μ)))
set_option maxRecDepth 20000 in
set_option maxHeartbeats 4000000 in
theorem cmX11_feed (w : go_Wd) (tx : Nat) (Q : Option Value → go_M → Prop) (μ : PM) (a0 : Int32) (a1 : Int32) (a2 : Int32) (a3 : Int32) (a4 : Int32) (out : Int32 × PM) (h : fX11_feed μ a0 a1 a2 a3 a4 = some out) (hK : Q (some (.int out.1)) (go_mk tx out.2)) : Go w 1 0 0 mtX11_feed 0 [(0, .ref 0), (1, .int a0), (2, .int a1), (3, .int a2), (4, .int a3), (5, .int a4)] [] (go_mk tx μ) (go_Z w Q) := by
  unfold fX11_feed at h
  refine go_aload_n dX11_feed_0 0 rfl ?_
  refine pp_getI dX11_feed_1 ff_X11_140 (by decide) sh_0 ?_
  refine go_bipush (v := 20) dX11_feed_4 (by decide) ?_
  refine go_iadd dX11_feed_6 ?_
  refine go_sipush (v := 300) dX11_feed_7 (by decide) ?_
  refine go_icmp_le 15 dX11_feed_10 (by decide) (fun hc => ?_) (fun hc => ?_)
  · have h := go_ifp hc h
    refine go_aload_n dX11_feed_15 0 rfl ?_
    refine go_iload_n dX11_feed_16 1 rfl ?_
    obtain ⟨q1, hq1, h⟩ := go_bind h
    refine pp_callV (as := [.int a0]) (st := []) (rv := none) (μ1 := q1) (st1 := []) dX11_feed_17 ll_X11_143 sh_0 (by decide) rfl (ctX11_putFour  hq1) rfl (Nat.le_of_ble_eq_true rfl) (Nat.le_of_ble_eq_true rfl) (go_Z_up w _) rfl rfl ?_
    refine go_aload_n dX11_feed_20 0 rfl ?_
    refine go_iload_n dX11_feed_21 2 rfl ?_
    obtain ⟨q2, hq2, h⟩ := go_bind h
    refine pp_callV (as := [.int a1]) (st := []) (rv := none) (μ1 := q2) (st1 := []) dX11_feed_22 ll_X11_143 sh_0 (by decide) rfl (ctX11_putFour  hq2) rfl (Nat.le_of_ble_eq_true rfl) (Nat.le_of_ble_eq_true rfl) (go_Z_up w _) rfl rfl ?_
    refine go_aload_n dX11_feed_25 0 rfl ?_
    refine go_iload_n dX11_feed_26 3 rfl ?_
    obtain ⟨q3, hq3, h⟩ := go_bind h
    refine pp_callV (as := [.int a2]) (st := []) (rv := none) (μ1 := q3) (st1 := []) dX11_feed_27 ll_X11_143 sh_0 (by decide) rfl (ctX11_putFour  hq3) rfl (Nat.le_of_ble_eq_true rfl) (Nat.le_of_ble_eq_true rfl) (go_Z_up w _) rfl rfl ?_
    refine go_aload_n dX11_feed_30 0 rfl ?_
    refine go_iload dX11_feed_31 4 rfl ?_
    obtain ⟨q4, hq4, h⟩ := go_bind h
    refine pp_callV (as := [.int a3]) (st := []) (rv := none) (μ1 := q4) (st1 := []) dX11_feed_33 ll_X11_143 sh_0 (by decide) rfl (ctX11_putFour  hq4) rfl (Nat.le_of_ble_eq_true rfl) (Nat.le_of_ble_eq_true rfl) (go_Z_up w _) rfl rfl ?_
    refine go_aload_n dX11_feed_36 0 rfl ?_
    refine go_iload dX11_feed_37 5 rfl ?_
    obtain ⟨q5, hq5, h⟩ := go_bind h
    refine pp_callV (as := [.int a4]) (st := []) (rv := none) (μ1 := q5) (st1 := []) dX11_feed_39 ll_X11_143 sh_0 (by decide) rfl (ctX11_putFour  hq5) rfl (Nat.le_of_ble_eq_true rfl) (Nat.le_of_ble_eq_true rfl) (go_Z_up w _) rfl rfl ?_
    refine go_aload_n dX11_feed_42 0 rfl ?_
    refine pp_getI dX11_feed_43 ff_X11_140 (by decide) sh_0 ?_
    cases h
    exact go_iret dX11_feed_46 rfl hK
  · have h := go_ifn hc h
    refine go_iconst (v := (-1)) dX11_feed_13 (by decide) ?_
    cases h
    exact go_iret dX11_feed_14 rfl hK
theorem ctX11_feed {w : go_Wd} {tx : Nat} {μ : PM} {a0 : Int32} {a1 : Int32} {a2 : Int32} {a3 : Int32} {a4 : Int32} {r : Int32} {μ1 : PM}  (h : fX11_feed μ a0 a1 a2 a3 a4 = some (r, μ1)) : Ct w 1 0 0 mtX11_feed [.ref 0, .int a0, .int a1, .int a2, .int a3, .int a4] (go_mk tx μ) (fun r' M' => r' = some (.int r) ∧ M' = go_mk tx μ1) :=
  go_entry rfl (by decide) (Nat.le_of_ble_eq_true rfl) (cmX11_feed w tx _ μ a0 a1 a2 a3 a4 _ h ⟨rfl, rfl⟩)
def fX11_end (μ : PM) (a0 : Int32) : Int32 × PM :=
  (if a0 < 0 then ((-1), μ) else (if a0 ≤ (μ.1 0 13) then go_let (pm_wi μ 0 13 a0) fun μ1 => (a0, μ1) else ((-1), μ)))
set_option maxRecDepth 20000 in
set_option maxHeartbeats 4000000 in
theorem cmX11_end (w : go_Wd) (tx : Nat) (Q : Option Value → go_M → Prop) (μ : PM) (a0 : Int32) (out : Int32 × PM) (h : fX11_end μ a0 = out) (hK : Q (some (.int out.1)) (go_mk tx out.2)) : Go w 0 0 0 mtX11_end 0 [(0, .ref 0), (1, .int a0)] [] (go_mk tx μ) (go_Z w Q) := by
  unfold fX11_end at h
  refine go_iload_n dX11_end_0 1 rfl ?_
  refine go_if_lt 12 dX11_end_1 (by decide) (fun hc => ?_) (fun hc => ?_)
  · have h := go_ifp hc h
    refine go_iconst (v := (-1)) dX11_end_12 (by decide) ?_
    subst h
    exact go_iret dX11_end_13 rfl hK
  · have h := go_ifn hc h
    refine go_iload_n dX11_end_4 1 rfl ?_
    refine go_aload_n dX11_end_5 0 rfl ?_
    refine pp_getI dX11_end_6 ff_X11_140 (by decide) sh_0 ?_
    refine go_icmp_le 14 dX11_end_9 (by decide) (fun hc => ?_) (fun hc => ?_)
    · have h := go_ifp hc h
      refine go_aload_n dX11_end_14 0 rfl ?_
      refine go_iload_n dX11_end_15 1 rfl ?_
      obtain ⟨μ1, hμ1, h⟩ := go_let_e h
      refine pp_putI dX11_end_16 ff_X11_140 (Or.inl rfl) sh_0 hμ1 ?_
      refine go_iload_n dX11_end_19 1 rfl ?_
      subst h
      exact go_iret dX11_end_20 rfl hK
    · have h := go_ifn hc h
      refine go_iconst (v := (-1)) dX11_end_12 (by decide) ?_
      subst h
      exact go_iret dX11_end_13 rfl hK
theorem ctX11_end {w : go_Wd} {tx : Nat} {μ : PM} {a0 : Int32} {r : Int32} {μ1 : PM}  (h : fX11_end μ a0 = (r, μ1)) : Ct w 0 0 0 mtX11_end [.ref 0, .int a0] (go_mk tx μ) (fun r' M' => r' = some (.int r) ∧ M' = go_mk tx μ1) :=
  go_entry rfl (by decide) (Nat.le_of_ble_eq_true rfl) (cmX11_end w tx _ μ a0 _ h ⟨rfl, rfl⟩)
def fX11_fault (μ : PM) (a0 : Int32) : Int32 :=
  (if (μ.1 0 14) = 0 then (-1) else (if a0 = 0 then (μ.1 0 15) else (if a0 = 1 then (μ.1 0 16) else (-1))))
set_option maxRecDepth 20000 in
set_option maxHeartbeats 4000000 in
theorem cmX11_fault (w : go_Wd) (tx : Nat) (Q : Option Value → go_M → Prop) (μ : PM) (a0 : Int32) (out : Int32) (h : fX11_fault μ a0 = out) (hK : Q (some (.int out)) (go_mk tx μ)) : Go w 0 0 0 mtX11_fault 0 [(0, .ref 0), (1, .int a0)] [] (go_mk tx μ) (go_Z w Q) := by
  unfold fX11_fault at h
  refine go_aload_n dX11_fault_0 0 rfl ?_
  refine pp_getI dX11_fault_1 ff_X11_153 (by decide) sh_0 ?_
  refine go_if_ne 9 dX11_fault_4 (by decide) (fun hc => ?_) (fun hc => ?_)
  · have h := go_ifn hc h
    refine go_iload_n dX11_fault_9 1 rfl ?_
    refine go_if_ne 18 dX11_fault_10 (by decide) (fun hc => ?_) (fun hc => ?_)
    · have h := go_ifn hc h
      refine go_iload_n dX11_fault_18 1 rfl ?_
      refine go_iconst (v := 1) dX11_fault_19 (by decide) ?_
      refine go_icmp_ne 30 dX11_fault_20 (by decide) (fun hc => ?_) (fun hc => ?_)
      · have h := go_ifn hc h
        refine go_iconst (v := (-1)) dX11_fault_30 (by decide) ?_
        subst h
        exact go_iret dX11_fault_31 rfl hK
      · have h := go_ifp hc h
        refine go_aload_n dX11_fault_23 0 rfl ?_
        refine pp_getI dX11_fault_24 ff_X11_98 (by decide) sh_0 ?_
        refine go_goto 31 dX11_fault_27 (by decide) ?_
        subst h
        exact go_iret dX11_fault_31 rfl hK
    · have h := go_ifp hc h
      refine go_aload_n dX11_fault_13 0 rfl ?_
      refine pp_getI dX11_fault_14 ff_X11_160 (by decide) sh_0 ?_
      subst h
      exact go_iret dX11_fault_17 rfl hK
  · have h := go_ifp hc h
    refine go_iconst (v := (-1)) dX11_fault_7 (by decide) ?_
    subst h
    exact go_iret dX11_fault_8 rfl hK
theorem ctX11_fault {w : go_Wd} {tx : Nat} {μ : PM} {a0 : Int32} {r : Int32}  (h : fX11_fault μ a0 = r) : Ct w 0 0 0 mtX11_fault [.ref 0, .int a0] (go_mk tx μ) (fun r' M' => r' = some (.int r) ∧ M' = go_mk tx μ) :=
  go_entry rfl (by decide) (Nat.le_of_ble_eq_true rfl) (cmX11_fault w tx _ μ a0 _ h ⟨rfl, rfl⟩)
def fX11_isText (μ : PM) (a0 : Int32) : Int32 :=
  (if a0 < 0 then 0 else (if (μ.1 1 13) ≤ a0 then 0 else (if 4 ≤ a0 then 0 else 1)))
set_option maxRecDepth 20000 in
set_option maxHeartbeats 4000000 in
theorem cmX11_isText (w : go_Wd) (tx : Nat) (Q : Option Value → go_M → Prop) (μ : PM) (a0 : Int32) (out : Int32) (h : fX11_isText μ a0 = out) (hK : Q (some (.int out)) (go_mk tx μ)) : Go w 0 0 0 mtX11_isText 0 [(0, .ref 0), (1, .int a0)] [] (go_mk tx μ) (go_Z w Q) := by
  unfold fX11_isText at h
  refine go_iload_n dX11_isText_0 1 rfl ?_
  refine go_if_lt 24 dX11_isText_1 (by decide) (fun hc => ?_) (fun hc => ?_)
  · have h := go_ifp hc h
    refine go_iconst (v := 0) dX11_isText_24 (by decide) ?_
    subst h
    exact go_zret dX11_isText_25 rfl (Or.inl rfl) hK
  · have h := go_ifn hc h
    refine go_iload_n dX11_isText_4 1 rfl ?_
    refine go_aload_n dX11_isText_5 0 rfl ?_
    refine pp_getR dX11_isText_6 ff_X11_10 (Or.inl ⟨_, rfl⟩) sh_0 rf_0_0 ?_
    refine pp_getI dX11_isText_9 ff_X11_147 (by decide) go_isV_1.1 ?_
    refine go_icmp_ge 24 dX11_isText_12 (by decide) (fun hc => ?_) (fun hc => ?_)
    · have h := go_ifp hc h
      refine go_iconst (v := 0) dX11_isText_24 (by decide) ?_
      subst h
      exact go_zret dX11_isText_25 rfl (Or.inl rfl) hK
    · have h := go_ifn hc h
      refine go_iload_n dX11_isText_15 1 rfl ?_
      refine go_iconst (v := 4) dX11_isText_16 (by decide) ?_
      refine go_icmp_ge 24 dX11_isText_17 (by decide) (fun hc => ?_) (fun hc => ?_)
      · have h := go_ifp hc h
        refine go_iconst (v := 0) dX11_isText_24 (by decide) ?_
        subst h
        exact go_zret dX11_isText_25 rfl (Or.inl rfl) hK
      · have h := go_ifn hc h
        refine go_iconst (v := 1) dX11_isText_20 (by decide) ?_
        refine go_goto 25 dX11_isText_21 (by decide) ?_
        subst h
        exact go_zret dX11_isText_25 rfl (Or.inr rfl) hK
theorem ctX11_isText {w : go_Wd} {tx : Nat} {μ : PM} {a0 : Int32} {r : Int32}  (h : fX11_isText μ a0 = r) : Ct w 0 0 0 mtX11_isText [.ref 0, .int a0] (go_mk tx μ) (fun r' M' => r' = some (.int r) ∧ M' = go_mk tx μ) :=
  go_entry rfl (by decide) (Nat.le_of_ble_eq_true rfl) (cmX11_isText w tx _ μ a0 _ h ⟨rfl, rfl⟩)
theorem bzX11_isText {μ : PM} {a0 : Int32} {r : Int32} (h : fX11_isText μ a0 = r) : r = 0 ∨ r = 1 := by
  subst h
  show go_bi _
  unfold fX11_isText
  repeat' first | exact bi_0 | exact bi_1 | with_reducible apply bi_ite
def jjX11_by_15 (μ : PM) (a0 : Int32)   : Int32 × PM :=
  go_let (pm_wi μ 1 14 a0) fun μ1 => (1, μ1)
def fX11_by (μ : PM) (a0 : Int32) : Int32 × PM :=
  (if a0 = (-1) then jjX11_by_15 μ a0 else (if (fX11_isText μ a0) = 0 then (0, μ) else jjX11_by_15 μ a0))
set_option maxRecDepth 20000 in
set_option maxHeartbeats 4000000 in
theorem jqX11_by_15 (w : go_Wd) (tx : Nat) (Q : Option Value → go_M → Prop) (μ : PM) (a0 : Int32)     (out : Int32 × PM) (h : jjX11_by_15 μ a0   = out) (hK : Q (some (.int out.1)) (go_mk tx out.2)) : Go w 1 0 0 mtX11_by 15 [(0, .ref 0), (1, .int a0)] [] (go_mk tx μ) (go_Z w Q) := by
  unfold jjX11_by_15 at h
  refine go_aload_n dX11_by_15 0 rfl ?_
  refine pp_getR dX11_by_16 ff_X11_10 (Or.inl ⟨_, rfl⟩) sh_0 rf_0_0 ?_
  refine go_iload_n dX11_by_19 1 rfl ?_
  obtain ⟨μ1, hμ1, h⟩ := go_let_e h
  refine pp_putI dX11_by_20 ff_X11_169 (Or.inl rfl) go_isV_1.1 hμ1 ?_
  refine go_iconst (v := 1) dX11_by_23 (by decide) ?_
  subst h
  exact go_zret dX11_by_24 rfl (Or.inr rfl) hK
set_option maxRecDepth 20000 in
set_option maxHeartbeats 4000000 in
theorem cmX11_by (w : go_Wd) (tx : Nat) (Q : Option Value → go_M → Prop) (μ : PM) (a0 : Int32) (out : Int32 × PM) (h : fX11_by μ a0 = out) (hK : Q (some (.int out.1)) (go_mk tx out.2)) : Go w 1 0 0 mtX11_by 0 [(0, .ref 0), (1, .int a0)] [] (go_mk tx μ) (go_Z w Q) := by
  unfold fX11_by at h
  refine go_iload_n dX11_by_0 1 rfl ?_
  refine go_iconst (v := (-1)) dX11_by_1 (by decide) ?_
  refine go_icmp_eq 15 dX11_by_2 (by decide) (fun hc => ?_) (fun hc => ?_)
  · have h := go_ifp hc h
    refine go_pick [0, 1] rfl ?_
    exact jqX11_by_15 w tx Q μ a0     _ h hK
  · have h := go_ifn hc h
    refine go_aload_n dX11_by_5 0 rfl ?_
    refine go_iload_n dX11_by_6 1 rfl ?_
    refine pp_callV (as := [.int a0]) (st := []) (rv := (some (.int (fX11_isText μ a0)))) (μ1 := μ) (st1 := [.int (fX11_isText μ a0)]) dX11_by_7 ll_X11_166 sh_0 (by decide) rfl (ctX11_isText  rfl) rfl (Nat.le_of_ble_eq_true rfl) (Nat.le_of_ble_eq_true rfl) (go_Z_up w _) rfl rfl ?_
    refine go_if_ne 15 dX11_by_10 (by decide) (fun hc => ?_) (fun hc => ?_)
    · have h := go_ifn hc h
      refine go_pick [0, 1] rfl ?_
      exact jqX11_by_15 w tx Q μ a0     _ h hK
    · have h := go_ifp hc h
      refine go_iconst (v := 0) dX11_by_13 (by decide) ?_
      subst h
      exact go_zret dX11_by_14 rfl (Or.inl rfl) hK
theorem ctX11_by {w : go_Wd} {tx : Nat} {μ : PM} {a0 : Int32} {r : Int32} {μ1 : PM}  (h : fX11_by μ a0 = (r, μ1)) : Ct w 1 0 0 mtX11_by [.ref 0, .int a0] (go_mk tx μ) (fun r' M' => r' = some (.int r) ∧ M' = go_mk tx μ1) :=
  go_entry rfl (by decide) (Nat.le_of_ble_eq_true rfl) (cmX11_by w tx _ μ a0 _ h ⟨rfl, rfl⟩)
def fX11_call (μ : PM) (a0 : Int32) : Option (Int32 × PM) :=
  (fX10_isFrozen μ 12 a0).bind fun q1 => (if q1 = 0 then some ((0, μ)) else (fX7_keep μ 17 12).bind fun q2 => go_chk a0 6 <| go_let (pm_wi q2 13 a0.toNatClampNeg 0) fun μ3 => some ((1, μ3)))
set_option maxRecDepth 20000 in
set_option maxHeartbeats 4000000 in
theorem cmX11_call (w : go_Wd) (tx : Nat) (Q : Option Value → go_M → Prop) (μ : PM) (a0 : Int32) (out : Int32 × PM) (h : fX11_call μ a0 = some out) (hK : Q (some (.int out.1)) (go_mk tx out.2)) : Go w 3 0 0 mtX11_call 0 [(0, .ref 0), (1, .int a0)] [] (go_mk tx μ) (go_Z w Q) := by
  unfold fX11_call at h
  refine go_aload_n dX11_call_0 0 rfl ?_
  refine pp_getR dX11_call_1 ff_X11_20 (Or.inl ⟨_, rfl⟩) sh_0 rf_0_1 ?_
  refine go_iload_n dX11_call_4 1 rfl ?_
  obtain ⟨q1, hq1, h⟩ := go_bind h
  refine pp_callV (as := [.int a0]) (st := []) (rv := (some (.int q1))) (μ1 := μ) (st1 := [.int q1]) dX11_call_5 ll_X11_172 go_isW_12.1 (by decide) rfl (ctX10_isFrozen go_isW_12 hq1) rfl (Nat.le_of_ble_eq_true rfl) (Nat.le_of_ble_eq_true rfl) (go_Z_up w _) rfl rfl ?_
  refine go_if_ne 13 dX11_call_8 (by decide) (fun hc => ?_) (fun hc => ?_)
  · have h := go_ifn hc h
    refine go_aload_n dX11_call_13 0 rfl ?_
    refine pp_getR dX11_call_14 ff_X11_10 (Or.inl ⟨_, rfl⟩) sh_0 rf_0_0 ?_
    refine pp_getR dX11_call_17 ff_X11_175 (Or.inl ⟨_, rfl⟩) go_isV_1.1 rf_1_11 ?_
    refine go_aload_n dX11_call_20 0 rfl ?_
    refine pp_getR dX11_call_21 ff_X11_20 (Or.inl ⟨_, rfl⟩) sh_0 rf_0_1 ?_
    obtain ⟨q2, hq2, h⟩ := go_bind h
    refine pp_callV (as := [.ref 12]) (st := []) (rv := none) (μ1 := q2) (st1 := []) dX11_call_24 ll_X11_179 go_isS_17.1 (by decide) rfl (ctX7_keep go_isS_17 go_isW_12 hq2) rfl (Nat.le_of_ble_eq_true rfl) (Nat.le_of_ble_eq_true rfl) (go_Z_up w _) rfl rfl ?_
    refine go_aload_n dX11_call_27 0 rfl ?_
    refine pp_getR dX11_call_28 ff_X11_20 (Or.inl ⟨_, rfl⟩) sh_0 rf_0_1 ?_
    refine pp_getR dX11_call_31 ff_X11_115 (Or.inr ⟨_, rfl⟩) go_isW_12.1 rf_12_0 ?_
    refine go_iload_n dX11_call_34 1 rfl ?_
    refine go_iconst (v := 0) dX11_call_35 (by decide) ?_
    obtain ⟨hz4, h⟩ := go_chk_e h
    obtain ⟨μ3, hμ3, h⟩ := go_let_e h
    refine pp_ist dX11_call_36 sh_13 hz4 hμ3 ?_
    refine go_iconst (v := 1) dX11_call_37 (by decide) ?_
    cases h
    exact go_zret dX11_call_38 rfl (Or.inr rfl) hK
  · have h := go_ifp hc h
    refine go_iconst (v := 0) dX11_call_11 (by decide) ?_
    cases h
    exact go_zret dX11_call_12 rfl (Or.inl rfl) hK
theorem ctX11_call {w : go_Wd} {tx : Nat} {μ : PM} {a0 : Int32} {r : Int32} {μ1 : PM}  (h : fX11_call μ a0 = some (r, μ1)) : Ct w 3 0 0 mtX11_call [.ref 0, .int a0] (go_mk tx μ) (fun r' M' => r' = some (.int r) ∧ M' = go_mk tx μ1) :=
  go_entry rfl (by decide) (Nat.le_of_ble_eq_true rfl) (cmX11_call w tx _ μ a0 _ h ⟨rfl, rfl⟩)
theorem bzX11_call {μ : PM} {a0 : Int32} {q : Int32 × PM} (h : fX11_call μ a0 = some q) : q.1 = 0 ∨ q.1 = 1 := by
  have hb : go_b (fX11_call μ a0) := by
    unfold fX11_call
    repeat' first | exact gb_0 | exact gb_1 | with_reducible apply gb_ite | with_reducible apply gb_chk | (with_reducible apply gb_let; intro x) | (with_reducible apply gb_bind; intro x)
  exact hb q h
def fX11_stone (μ : PM) (a0 : Int32) (a1 : Int32) : Option (Int32 × PM) :=
  (if (fX11_isCell a0) = 0 then some ((0, μ)) else (if (fX11_hasBit (μ.1 12 7) a0) = a1 then some ((0, μ)) else (fX7_keep μ 17 12).bind fun q1 => go_let (pm_wi q1 12 7 ((q1.1 12 7) ^^^ ((1 : Int32) <<< (a0 &&& 31)))) fun μ2 => some ((1, μ2))))
set_option maxRecDepth 20000 in
set_option maxHeartbeats 4000000 in
theorem cmX11_stone (w : go_Wd) (tx : Nat) (Q : Option Value → go_M → Prop) (μ : PM) (a0 : Int32) (a1 : Int32) (out : Int32 × PM) (h : fX11_stone μ a0 a1 = some out) (hK : Q (some (.int out.1)) (go_mk tx out.2)) : Go w 3 0 0 mtX11_stone 0 [(0, .ref 0), (1, .int a0), (2, .int a1)] [] (go_mk tx μ) (go_Z w Q) := by
  unfold fX11_stone at h
  refine go_iload_n dX11_stone_0 1 rfl ?_
  refine pp_callS (as := [.int a0]) (st := []) (rv := (some (.int (fX11_isCell a0)))) (μ1 := μ) (st1 := [.int (fX11_isCell a0)]) dX11_stone_1 ll_X11_124 (ctX11_isCell  rfl) rfl (Nat.le_of_ble_eq_true rfl) (Nat.le_of_ble_eq_true rfl) (go_Z_up w _) rfl rfl ?_
  refine go_if_eq 22 dX11_stone_4 (by decide) (fun hc => ?_) (fun hc => ?_)
  · have h := go_ifp hc h
    refine go_iconst (v := 0) dX11_stone_22 (by decide) ?_
    cases h
    exact go_zret dX11_stone_23 rfl (Or.inl rfl) hK
  · have h := go_ifn hc h
    refine go_aload_n dX11_stone_7 0 rfl ?_
    refine pp_getR dX11_stone_8 ff_X11_20 (Or.inl ⟨_, rfl⟩) sh_0 rf_0_1 ?_
    refine pp_getI dX11_stone_11 ff_X11_185 (by decide) go_isW_12.1 ?_
    refine go_iload_n dX11_stone_14 1 rfl ?_
    refine pp_callS (as := [.int (μ.1 12 7), .int a0]) (st := []) (rv := (some (.int (fX11_hasBit (μ.1 12 7) a0)))) (μ1 := μ) (st1 := [.int (fX11_hasBit (μ.1 12 7) a0)]) dX11_stone_15 ll_X11_188 (ctX11_hasBit  rfl) rfl (Nat.le_of_ble_eq_true rfl) (Nat.le_of_ble_eq_true rfl) (go_Z_up w _) rfl rfl ?_
    refine go_iload_n dX11_stone_18 2 rfl ?_
    refine go_icmp_ne 24 dX11_stone_19 (by decide) (fun hc => ?_) (fun hc => ?_)
    · have h := go_ifn hc h
      refine go_aload_n dX11_stone_24 0 rfl ?_
      refine pp_getR dX11_stone_25 ff_X11_10 (Or.inl ⟨_, rfl⟩) sh_0 rf_0_0 ?_
      refine pp_getR dX11_stone_28 ff_X11_175 (Or.inl ⟨_, rfl⟩) go_isV_1.1 rf_1_11 ?_
      refine go_aload_n dX11_stone_31 0 rfl ?_
      refine pp_getR dX11_stone_32 ff_X11_20 (Or.inl ⟨_, rfl⟩) sh_0 rf_0_1 ?_
      obtain ⟨q1, hq1, h⟩ := go_bind h
      refine pp_callV (as := [.ref 12]) (st := []) (rv := none) (μ1 := q1) (st1 := []) dX11_stone_35 ll_X11_179 go_isS_17.1 (by decide) rfl (ctX7_keep go_isS_17 go_isW_12 hq1) rfl (Nat.le_of_ble_eq_true rfl) (Nat.le_of_ble_eq_true rfl) (go_Z_up w _) rfl rfl ?_
      refine go_aload_n dX11_stone_38 0 rfl ?_
      refine pp_getR dX11_stone_39 ff_X11_20 (Or.inl ⟨_, rfl⟩) sh_0 rf_0_1 ?_
      refine go_dup dX11_stone_42 rfl ?_
      refine pp_getI dX11_stone_43 ff_X11_185 (by decide) go_isW_12.1 ?_
      refine go_iconst (v := 1) dX11_stone_46 (by decide) ?_
      refine go_iload_n dX11_stone_47 1 rfl ?_
      refine go_ishl dX11_stone_48 ?_
      refine go_ixor dX11_stone_49 ?_
      obtain ⟨μ2, hμ2, h⟩ := go_let_e h
      refine pp_putI dX11_stone_50 ff_X11_185 (Or.inl rfl) go_isW_12.1 hμ2 ?_
      refine go_iconst (v := 1) dX11_stone_53 (by decide) ?_
      cases h
      exact go_zret dX11_stone_54 rfl (Or.inr rfl) hK
    · have h := go_ifp hc h
      refine go_iconst (v := 0) dX11_stone_22 (by decide) ?_
      cases h
      exact go_zret dX11_stone_23 rfl (Or.inl rfl) hK
theorem ctX11_stone {w : go_Wd} {tx : Nat} {μ : PM} {a0 : Int32} {a1 : Int32} {r : Int32} {μ1 : PM}  (h : fX11_stone μ a0 a1 = some (r, μ1)) : Ct w 3 0 0 mtX11_stone [.ref 0, .int a0, .int a1] (go_mk tx μ) (fun r' M' => r' = some (.int r) ∧ M' = go_mk tx μ1) :=
  go_entry rfl (by decide) (Nat.le_of_ble_eq_true rfl) (cmX11_stone w tx _ μ a0 a1 _ h ⟨rfl, rfl⟩)
theorem bzX11_stone {μ : PM} {a0 a1 : Int32} {q : Int32 × PM} (h : fX11_stone μ a0 a1 = some q) : q.1 = 0 ∨ q.1 = 1 := by
  have hb : go_b (fX11_stone μ a0 a1) := by
    unfold fX11_stone
    repeat' first | exact gb_0 | exact gb_1 | with_reducible apply gb_ite | with_reducible apply gb_chk | (with_reducible apply gb_let; intro x) | (with_reducible apply gb_bind; intro x)
  exact hb q h
def fX11_isFamily (μ : PM) (a0 : Int32) : Int32 :=
  (if a0 < 0 then 0 else (if (μ.1 12 6) ≤ a0 then 0 else (if 5 ≤ a0 then 0 else 1)))
set_option maxRecDepth 20000 in
set_option maxHeartbeats 4000000 in
theorem cmX11_isFamily (w : go_Wd) (tx : Nat) (Q : Option Value → go_M → Prop) (μ : PM) (a0 : Int32) (out : Int32) (h : fX11_isFamily μ a0 = out) (hK : Q (some (.int out)) (go_mk tx μ)) : Go w 0 0 0 mtX11_isFamily 0 [(0, .ref 0), (1, .int a0)] [] (go_mk tx μ) (go_Z w Q) := by
  unfold fX11_isFamily at h
  refine go_iload_n dX11_isFamily_0 1 rfl ?_
  refine go_if_lt 24 dX11_isFamily_1 (by decide) (fun hc => ?_) (fun hc => ?_)
  · have h := go_ifp hc h
    refine go_iconst (v := 0) dX11_isFamily_24 (by decide) ?_
    subst h
    exact go_zret dX11_isFamily_25 rfl (Or.inl rfl) hK
  · have h := go_ifn hc h
    refine go_iload_n dX11_isFamily_4 1 rfl ?_
    refine go_aload_n dX11_isFamily_5 0 rfl ?_
    refine pp_getR dX11_isFamily_6 ff_X11_20 (Or.inl ⟨_, rfl⟩) sh_0 rf_0_1 ?_
    refine pp_getI dX11_isFamily_9 ff_X11_121 (by decide) go_isW_12.1 ?_
    refine go_icmp_ge 24 dX11_isFamily_12 (by decide) (fun hc => ?_) (fun hc => ?_)
    · have h := go_ifp hc h
      refine go_iconst (v := 0) dX11_isFamily_24 (by decide) ?_
      subst h
      exact go_zret dX11_isFamily_25 rfl (Or.inl rfl) hK
    · have h := go_ifn hc h
      refine go_iload_n dX11_isFamily_15 1 rfl ?_
      refine go_iconst (v := 5) dX11_isFamily_16 (by decide) ?_
      refine go_icmp_ge 24 dX11_isFamily_17 (by decide) (fun hc => ?_) (fun hc => ?_)
      · have h := go_ifp hc h
        refine go_iconst (v := 0) dX11_isFamily_24 (by decide) ?_
        subst h
        exact go_zret dX11_isFamily_25 rfl (Or.inl rfl) hK
      · have h := go_ifn hc h
        refine go_iconst (v := 1) dX11_isFamily_20 (by decide) ?_
        refine go_goto 25 dX11_isFamily_21 (by decide) ?_
        subst h
        exact go_zret dX11_isFamily_25 rfl (Or.inr rfl) hK
theorem ctX11_isFamily {w : go_Wd} {tx : Nat} {μ : PM} {a0 : Int32} {r : Int32}  (h : fX11_isFamily μ a0 = r) : Ct w 0 0 0 mtX11_isFamily [.ref 0, .int a0] (go_mk tx μ) (fun r' M' => r' = some (.int r) ∧ M' = go_mk tx μ) :=
  go_entry rfl (by decide) (Nat.le_of_ble_eq_true rfl) (cmX11_isFamily w tx _ μ a0 _ h ⟨rfl, rfl⟩)
theorem bzX11_isFamily {μ : PM} {a0 : Int32} {r : Int32} (h : fX11_isFamily μ a0 = r) : r = 0 ∨ r = 1 := by
  subst h
  show go_bi _
  unfold fX11_isFamily
  repeat' first | exact bi_0 | exact bi_1 | with_reducible apply bi_ite
def fX11_stand (μ : PM) (a0 : Int32) (a1 : Int32) : Option (Int32 × PM) :=
  (if (fX11_isFamily μ a0) = 0 then some ((0, μ)) else (if (fX11_isCell a1) = 0 then some ((0, μ)) else go_chk a0 5 <| (if (μ.1 15 a0.toNatClampNeg) = a1 then some ((0, μ)) else (fX7_keep μ 17 12).bind fun q2 => go_chk a0 5 <| go_let (pm_wi q2 15 a0.toNatClampNeg a1) fun μ3 => some ((1, μ3)))))
set_option maxRecDepth 20000 in
set_option maxHeartbeats 4000000 in
theorem cmX11_stand (w : go_Wd) (tx : Nat) (Q : Option Value → go_M → Prop) (μ : PM) (a0 : Int32) (a1 : Int32) (out : Int32 × PM) (h : fX11_stand μ a0 a1 = some out) (hK : Q (some (.int out.1)) (go_mk tx out.2)) : Go w 3 0 0 mtX11_stand 0 [(0, .ref 0), (1, .int a0), (2, .int a1)] [] (go_mk tx μ) (go_Z w Q) := by
  unfold fX11_stand at h
  refine go_aload_n dX11_stand_0 0 rfl ?_
  refine go_iload_n dX11_stand_1 1 rfl ?_
  refine pp_callV (as := [.int a0]) (st := []) (rv := (some (.int (fX11_isFamily μ a0)))) (μ1 := μ) (st1 := [.int (fX11_isFamily μ a0)]) dX11_stand_2 ll_X11_192 sh_0 (by decide) rfl (ctX11_isFamily  rfl) rfl (Nat.le_of_ble_eq_true rfl) (Nat.le_of_ble_eq_true rfl) (go_Z_up w _) rfl rfl ?_
  refine go_if_eq 28 dX11_stand_5 (by decide) (fun hc => ?_) (fun hc => ?_)
  · have h := go_ifp hc h
    refine go_iconst (v := 0) dX11_stand_28 (by decide) ?_
    cases h
    exact go_zret dX11_stand_29 rfl (Or.inl rfl) hK
  · have h := go_ifn hc h
    refine go_iload_n dX11_stand_8 2 rfl ?_
    refine pp_callS (as := [.int a1]) (st := []) (rv := (some (.int (fX11_isCell a1)))) (μ1 := μ) (st1 := [.int (fX11_isCell a1)]) dX11_stand_9 ll_X11_124 (ctX11_isCell  rfl) rfl (Nat.le_of_ble_eq_true rfl) (Nat.le_of_ble_eq_true rfl) (go_Z_up w _) rfl rfl ?_
    refine go_if_eq 28 dX11_stand_12 (by decide) (fun hc => ?_) (fun hc => ?_)
    · have h := go_ifp hc h
      refine go_iconst (v := 0) dX11_stand_28 (by decide) ?_
      cases h
      exact go_zret dX11_stand_29 rfl (Or.inl rfl) hK
    · have h := go_ifn hc h
      refine go_aload_n dX11_stand_15 0 rfl ?_
      refine pp_getR dX11_stand_16 ff_X11_20 (Or.inl ⟨_, rfl⟩) sh_0 rf_0_1 ?_
      refine pp_getR dX11_stand_19 ff_X11_134 (Or.inr ⟨_, rfl⟩) go_isW_12.1 rf_12_2 ?_
      refine go_iload_n dX11_stand_22 1 rfl ?_
      obtain ⟨hz1, h⟩ := go_chk_e h
      refine pp_ild dX11_stand_23 sh_15 hz1 ?_
      refine go_iload_n dX11_stand_24 2 rfl ?_
      refine go_icmp_ne 30 dX11_stand_25 (by decide) (fun hc => ?_) (fun hc => ?_)
      · have h := go_ifn hc h
        refine go_aload_n dX11_stand_30 0 rfl ?_
        refine pp_getR dX11_stand_31 ff_X11_10 (Or.inl ⟨_, rfl⟩) sh_0 rf_0_0 ?_
        refine pp_getR dX11_stand_34 ff_X11_175 (Or.inl ⟨_, rfl⟩) go_isV_1.1 rf_1_11 ?_
        refine go_aload_n dX11_stand_37 0 rfl ?_
        refine pp_getR dX11_stand_38 ff_X11_20 (Or.inl ⟨_, rfl⟩) sh_0 rf_0_1 ?_
        obtain ⟨q2, hq2, h⟩ := go_bind h
        refine pp_callV (as := [.ref 12]) (st := []) (rv := none) (μ1 := q2) (st1 := []) dX11_stand_41 ll_X11_179 go_isS_17.1 (by decide) rfl (ctX7_keep go_isS_17 go_isW_12 hq2) rfl (Nat.le_of_ble_eq_true rfl) (Nat.le_of_ble_eq_true rfl) (go_Z_up w _) rfl rfl ?_
        refine go_aload_n dX11_stand_44 0 rfl ?_
        refine pp_getR dX11_stand_45 ff_X11_20 (Or.inl ⟨_, rfl⟩) sh_0 rf_0_1 ?_
        refine pp_getR dX11_stand_48 ff_X11_134 (Or.inr ⟨_, rfl⟩) go_isW_12.1 rf_12_2 ?_
        refine go_iload_n dX11_stand_51 1 rfl ?_
        refine go_iload_n dX11_stand_52 2 rfl ?_
        obtain ⟨hz4, h⟩ := go_chk_e h
        obtain ⟨μ3, hμ3, h⟩ := go_let_e h
        refine pp_ist dX11_stand_53 sh_15 hz4 hμ3 ?_
        refine go_iconst (v := 1) dX11_stand_54 (by decide) ?_
        cases h
        exact go_zret dX11_stand_55 rfl (Or.inr rfl) hK
      · have h := go_ifp hc h
        refine go_iconst (v := 0) dX11_stand_28 (by decide) ?_
        cases h
        exact go_zret dX11_stand_29 rfl (Or.inl rfl) hK
theorem ctX11_stand {w : go_Wd} {tx : Nat} {μ : PM} {a0 : Int32} {a1 : Int32} {r : Int32} {μ1 : PM}  (h : fX11_stand μ a0 a1 = some (r, μ1)) : Ct w 3 0 0 mtX11_stand [.ref 0, .int a0, .int a1] (go_mk tx μ) (fun r' M' => r' = some (.int r) ∧ M' = go_mk tx μ1) :=
  go_entry rfl (by decide) (Nat.le_of_ble_eq_true rfl) (cmX11_stand w tx _ μ a0 a1 _ h ⟨rfl, rfl⟩)
theorem bzX11_stand {μ : PM} {a0 a1 : Int32} {q : Int32 × PM} (h : fX11_stand μ a0 a1 = some q) : q.1 = 0 ∨ q.1 = 1 := by
  have hb : go_b (fX11_stand μ a0 a1) := by
    unfold fX11_stand
    repeat' first | exact gb_0 | exact gb_1 | with_reducible apply gb_ite | with_reducible apply gb_chk | (with_reducible apply gb_let; intro x) | (with_reducible apply gb_bind; intro x)
  exact hb q h
def fX11_sink (μ : PM) (a0 : Int32) : Option (Int32 × PM) :=
  (fX10_isClaimed μ 12 a0).bind fun q1 => (if q1 = 0 then some ((0, μ)) else (fX7_keep μ 17 12).bind fun q2 => go_chk a0 6 <| go_let (pm_wi q2 13 a0.toNatClampNeg 0) fun μ3 => some ((1, μ3)))
set_option maxRecDepth 20000 in
set_option maxHeartbeats 4000000 in
theorem cmX11_sink (w : go_Wd) (tx : Nat) (Q : Option Value → go_M → Prop) (μ : PM) (a0 : Int32) (out : Int32 × PM) (h : fX11_sink μ a0 = some out) (hK : Q (some (.int out.1)) (go_mk tx out.2)) : Go w 3 0 0 mtX11_sink 0 [(0, .ref 0), (1, .int a0)] [] (go_mk tx μ) (go_Z w Q) := by
  unfold fX11_sink at h
  refine go_aload_n dX11_sink_0 0 rfl ?_
  refine pp_getR dX11_sink_1 ff_X11_20 (Or.inl ⟨_, rfl⟩) sh_0 rf_0_1 ?_
  refine go_iload_n dX11_sink_4 1 rfl ?_
  obtain ⟨q1, hq1, h⟩ := go_bind h
  refine pp_callV (as := [.int a0]) (st := []) (rv := (some (.int q1))) (μ1 := μ) (st1 := [.int q1]) dX11_sink_5 ll_X11_195 go_isW_12.1 (by decide) rfl (ctX10_isClaimed go_isW_12 hq1) rfl (Nat.le_of_ble_eq_true rfl) (Nat.le_of_ble_eq_true rfl) (go_Z_up w _) rfl rfl ?_
  refine go_if_ne 13 dX11_sink_8 (by decide) (fun hc => ?_) (fun hc => ?_)
  · have h := go_ifn hc h
    refine go_aload_n dX11_sink_13 0 rfl ?_
    refine pp_getR dX11_sink_14 ff_X11_10 (Or.inl ⟨_, rfl⟩) sh_0 rf_0_0 ?_
    refine pp_getR dX11_sink_17 ff_X11_175 (Or.inl ⟨_, rfl⟩) go_isV_1.1 rf_1_11 ?_
    refine go_aload_n dX11_sink_20 0 rfl ?_
    refine pp_getR dX11_sink_21 ff_X11_20 (Or.inl ⟨_, rfl⟩) sh_0 rf_0_1 ?_
    obtain ⟨q2, hq2, h⟩ := go_bind h
    refine pp_callV (as := [.ref 12]) (st := []) (rv := none) (μ1 := q2) (st1 := []) dX11_sink_24 ll_X11_179 go_isS_17.1 (by decide) rfl (ctX7_keep go_isS_17 go_isW_12 hq2) rfl (Nat.le_of_ble_eq_true rfl) (Nat.le_of_ble_eq_true rfl) (go_Z_up w _) rfl rfl ?_
    refine go_aload_n dX11_sink_27 0 rfl ?_
    refine pp_getR dX11_sink_28 ff_X11_20 (Or.inl ⟨_, rfl⟩) sh_0 rf_0_1 ?_
    refine pp_getR dX11_sink_31 ff_X11_115 (Or.inr ⟨_, rfl⟩) go_isW_12.1 rf_12_0 ?_
    refine go_iload_n dX11_sink_34 1 rfl ?_
    refine go_iconst (v := 0) dX11_sink_35 (by decide) ?_
    obtain ⟨hz4, h⟩ := go_chk_e h
    obtain ⟨μ3, hμ3, h⟩ := go_let_e h
    refine pp_ist dX11_sink_36 sh_13 hz4 hμ3 ?_
    refine go_iconst (v := 1) dX11_sink_37 (by decide) ?_
    cases h
    exact go_zret dX11_sink_38 rfl (Or.inr rfl) hK
  · have h := go_ifp hc h
    refine go_iconst (v := 0) dX11_sink_11 (by decide) ?_
    cases h
    exact go_zret dX11_sink_12 rfl (Or.inl rfl) hK
theorem ctX11_sink {w : go_Wd} {tx : Nat} {μ : PM} {a0 : Int32} {r : Int32} {μ1 : PM}  (h : fX11_sink μ a0 = some (r, μ1)) : Ct w 3 0 0 mtX11_sink [.ref 0, .int a0] (go_mk tx μ) (fun r' M' => r' = some (.int r) ∧ M' = go_mk tx μ1) :=
  go_entry rfl (by decide) (Nat.le_of_ble_eq_true rfl) (cmX11_sink w tx _ μ a0 _ h ⟨rfl, rfl⟩)
theorem bzX11_sink {μ : PM} {a0 : Int32} {q : Int32 × PM} (h : fX11_sink μ a0 = some q) : q.1 = 0 ∨ q.1 = 1 := by
  have hb : go_b (fX11_sink μ a0) := by
    unfold fX11_sink
    repeat' first | exact gb_0 | exact gb_1 | with_reducible apply gb_ite | with_reducible apply gb_chk | (with_reducible apply gb_let; intro x) | (with_reducible apply gb_bind; intro x)
  exact hb q h
def fX11_findText (μ : PM) (a0 : Int32) : Option (Option Nat) :=
  (if (fX11_isText μ a0) = 0 then some (none) else go_chk a0 4 <| some ((some (343 + 7 * a0.toNatClampNeg))))
set_option maxRecDepth 20000 in
set_option maxHeartbeats 4000000 in
theorem cmX11_findText (w : go_Wd) (tx : Nat) (Q : Option Value → go_M → Prop) (μ : PM) (a0 : Int32) (out : Option Nat) (h : fX11_findText μ a0 = some out) (hK : Q (some (go_on out)) (go_mk tx μ)) : Go w 1 0 0 mtX11_findText 0 [(0, .ref 0), (1, .int a0)] [] (go_mk tx μ) (go_Z w Q) := by
  unfold fX11_findText at h
  refine go_aload_n dX11_findText_0 0 rfl ?_
  refine go_iload_n dX11_findText_1 1 rfl ?_
  refine pp_callV (as := [.int a0]) (st := []) (rv := (some (.int (fX11_isText μ a0)))) (μ1 := μ) (st1 := [.int (fX11_isText μ a0)]) dX11_findText_2 ll_X11_166 sh_0 (by decide) rfl (ctX11_isText  rfl) rfl (Nat.le_of_ble_eq_true rfl) (Nat.le_of_ble_eq_true rfl) (go_Z_up w _) rfl rfl ?_
  refine go_if_eq 17 dX11_findText_5 (by decide) (fun hc => ?_) (fun hc => ?_)
  · have h := go_ifp hc h
    refine go_null dX11_findText_17 ?_
    cases h
    exact go_aret dX11_findText_18 rfl ⟨_, rfl⟩ (Or.inl rfl) hK
  · have h := go_ifn hc h
    refine go_aload_n dX11_findText_8 0 rfl ?_
    refine pp_getR dX11_findText_9 ff_X11_32 (Or.inr ⟨_, rfl⟩) sh_0 rf_0_4 ?_
    refine go_iload_n dX11_findText_12 1 rfl ?_
    obtain ⟨hz1, h⟩ := go_chk_e h
    refine pp_ald dX11_findText_13 sh_342 (Or.inl rfl) hz1 (rf_342 (tx := tx) _ (go_in_lt hz1)).1 ?_
    refine go_goto 18 dX11_findText_14 (by decide) ?_
    cases h
    exact go_aret dX11_findText_18 rfl ⟨_, rfl⟩ (Or.inr ⟨_, rfl⟩) hK
theorem ctX11_findText {w : go_Wd} {tx : Nat} {μ : PM} {a0 : Int32} {r : Option Nat}  (h : fX11_findText μ a0 = some r) : Ct w 1 0 0 mtX11_findText [.ref 0, .int a0] (go_mk tx μ) (fun r' M' => r' = some (go_on r) ∧ M' = go_mk tx μ) :=
  go_entry rfl (by decide) (Nat.le_of_ble_eq_true rfl) (cmX11_findText w tx _ μ a0 _ h ⟨rfl, rfl⟩)
theorem opX11_findText {μ : PM} {a0 : Int32} {r : Option Nat} (h : fX11_findText μ a0 = some r) : ∀ q, r = some q → go_isT q := by
  intro q hq
  unfold fX11_findText at h
  by_cases hc : (fX11_isText μ a0) = 0
  · rw [if_pos hc] at h
    cases h
    cases hq
  · rw [if_neg hc] at h
    obtain ⟨hz, h⟩ := go_chk_e h
    cases h
    cases hq
    exact (rf_342 (tx := 0) _ (go_in_lt hz)).2
def lbX11_passHours_17 (a0 : Int32) (v2 : Option Nat) (v3 : Int32) (v4 : Int32) (μ : PM) : Option ((Int32 × Int32 × PM) ⊕ (Int32 × PM)) :=
  (if a0 ≤ v4 then some (.inr ((v3, μ))) else (fX7_keep μ 17 12).bind fun q2 => (fX0_passHour q2 v2 12).bind fun q3 => some (.inl ((v3 + q3.1), (v4 + 1), q3.2)))
def fX11_passHours (μ : PM) (a0 : Int32) : Option (Int32 × PM) :=
  (fX11_findText μ (μ.1 1 14)).bind fun q1 => ((lp (fun s => lbX11_passHours_17 a0 q1 s.1 s.2.1 s.2.2) go_fuel (0, 0, μ)).bind fun ρ4 => some ρ4)
def ggX11_passHours_17 (w : go_Wd) (tx : Nat) (Q : Option Value → go_M → Prop) (a0 : Int32) (v2 : Option Nat) (s : Int32 × Int32 × PM) : Prop := Go w 6 0 0 mtX11_passHours 17 [(0, .ref 0), (1, .int a0), (2, go_on v2), (3, .int s.1), (4, .int s.2.1)] [] (go_mk tx s.2.2) (go_Z w Q)
def eeX11_passHours_17 (w : go_Wd) (tx : Nat) (Q : Option Value → go_M → Prop) (a0 : Int32) (v2 : Option Nat) (y : Int32 × PM) : Prop := Q (some (.int y.1)) (go_mk tx y.2)
set_option maxRecDepth 20000 in
set_option maxHeartbeats 4000000 in
theorem lqX11_passHours_17 (w : go_Wd) (tx : Nat) (Q : Option Value → go_M → Prop) (a0 : Int32) (v2 : Option Nat) (hv2 : ∀ q, v2 = some q → go_isT q) (v3 : Int32) (v4 : Int32) (μ : PM) (out : (Int32 × Int32 × PM) ⊕ (Int32 × PM)) (h : lbX11_passHours_17 a0 v2 v3 v4 μ = some out) (hK : go_out (ggX11_passHours_17 w tx Q a0 v2) (eeX11_passHours_17 w tx Q a0 v2) out) : ggX11_passHours_17 w tx Q a0 v2 (v3, v4, μ) := by
  unfold lbX11_passHours_17 at h
  show Go w 6 0 0 mtX11_passHours 17 [(0, .ref 0), (1, .int a0), (2, go_on v2), (3, .int v3), (4, .int v4)] [] (go_mk tx μ) (go_Z w Q)
  refine go_iload dX11_passHours_17 4 rfl ?_
  refine go_iload_n dX11_passHours_19 1 rfl ?_
  refine go_icmp_ge 58 dX11_passHours_20 (by decide) (fun hc => ?_) (fun hc => ?_)
  · have h := go_ifp hc h
    refine go_iload_n dX11_passHours_58 3 rfl ?_
    cases h
    exact go_iret dX11_passHours_59 rfl hK
  · have h := go_ifn hc h
    refine go_aload_n dX11_passHours_23 0 rfl ?_
    refine pp_getR dX11_passHours_24 ff_X11_10 (Or.inl ⟨_, rfl⟩) sh_0 rf_0_0 ?_
    refine pp_getR dX11_passHours_27 ff_X11_175 (Or.inl ⟨_, rfl⟩) go_isV_1.1 rf_1_11 ?_
    refine go_aload_n dX11_passHours_30 0 rfl ?_
    refine pp_getR dX11_passHours_31 ff_X11_20 (Or.inl ⟨_, rfl⟩) sh_0 rf_0_1 ?_
    obtain ⟨q2, hq2, h⟩ := go_bind h
    refine pp_callV (as := [.ref 12]) (st := []) (rv := none) (μ1 := q2) (st1 := []) dX11_passHours_34 ll_X11_179 go_isS_17.1 (by decide) rfl (ctX7_keep go_isS_17 go_isW_12 hq2) rfl (Nat.le_of_ble_eq_true rfl) (Nat.le_of_ble_eq_true rfl) (go_Z_up w _) rfl rfl ?_
    refine go_iload_n dX11_passHours_37 3 rfl ?_
    refine go_aload_n dX11_passHours_38 0 rfl ?_
    refine pp_getR dX11_passHours_39 ff_X11_64 (Or.inl ⟨_, rfl⟩) sh_0 rf_0_8 ?_
    refine go_aloadO dX11_passHours_42 2 rfl ?_
    refine go_aload_n dX11_passHours_43 0 rfl ?_
    refine pp_getR dX11_passHours_44 ff_X11_20 (Or.inl ⟨_, rfl⟩) sh_0 rf_0_1 ?_
    obtain ⟨q3, hq3, h⟩ := go_bind h
    refine pp_callV (as := [go_on v2, .ref 12]) (st := [.int v3]) (rv := (some (.int q3.1))) (μ1 := q3.2) (st1 := [.int q3.1, .int v3]) dX11_passHours_47 ll_X11_282 sh_386 (by decide) rfl (ctX0_passHour hv2 go_isW_12 hq3) rfl (Nat.le_of_ble_eq_true rfl) (Nat.le_of_ble_eq_true rfl) (go_Z_up w _) rfl rfl ?_
    refine go_iadd dX11_passHours_50 ?_
    refine go_istore_n (lv' := [(3, .int (v3 + q3.1)), (0, .ref 0), (1, .int a0), (2, go_on v2), (4, .int v4)]) dX11_passHours_51 (by decide) (by cases v2 <;> rfl) ?_
    show Go w 6 0 0 mtX11_passHours 52 [(3, .int (v3 + q3.1)), (0, .ref 0), (1, .int a0), (2, go_on v2), (4, .int v4)] [] (go_mk tx q3.2) (go_Z w Q)
    refine go_iinc (v := (v4 + 1)) dX11_passHours_52 4 rfl rfl (by decide) rfl ?_
    show Go w 6 0 0 mtX11_passHours 55 [(4, .int (v4 + 1)), (3, .int (v3 + q3.1)), (0, .ref 0), (1, .int a0), (2, go_on v2)] [] (go_mk tx q3.2) (go_Z w Q)
    refine go_goto 17 dX11_passHours_55 (by decide) ?_
    cases h
    have hK : Go w 6 0 0 mtX11_passHours 17 [(0, .ref 0), (1, .int a0), (2, go_on v2), (3, .int (v3 + q3.1)), (4, .int (v4 + 1))] [] (go_mk tx q3.2) (go_Z w Q) := hK
    exact go_pick [2, 3, 4, 1, 0] rfl hK
set_option maxRecDepth 20000 in
set_option maxHeartbeats 4000000 in
theorem cmX11_passHours (w : go_Wd) (tx : Nat) (Q : Option Value → go_M → Prop) (μ : PM) (a0 : Int32) (out : Int32 × PM) (h : fX11_passHours μ a0 = some out) (hK : Q (some (.int out.1)) (go_mk tx out.2)) : Go w 6 0 0 mtX11_passHours 0 [(0, .ref 0), (1, .int a0)] [] (go_mk tx μ) (go_Z w Q) := by
  unfold fX11_passHours at h
  refine go_aload_n dX11_passHours_0 0 rfl ?_
  refine go_aload_n dX11_passHours_1 0 rfl ?_
  refine pp_getR dX11_passHours_2 ff_X11_10 (Or.inl ⟨_, rfl⟩) sh_0 rf_0_0 ?_
  refine pp_getI dX11_passHours_5 ff_X11_169 (by decide) go_isV_1.1 ?_
  obtain ⟨q1, hq1, h⟩ := go_bind h
  refine pp_callV (as := [.int (μ.1 1 14)]) (st := []) (rv := (some (go_on q1))) (μ1 := μ) (st1 := [go_on q1]) dX11_passHours_8 ll_X11_204 sh_0 (by decide) rfl (ctX11_findText  hq1) rfl (Nat.le_of_ble_eq_true rfl) (Nat.le_of_ble_eq_true rfl) (go_Z_up w _) rfl rfl ?_
  refine go_astoreO dX11_passHours_11 (by decide) rfl ?_
  show Go w 6 0 0 mtX11_passHours 12 [(2, go_on q1), (0, .ref 0), (1, .int a0)] [] (go_mk tx μ) (go_Z w Q)
  refine go_iconst (v := 0) dX11_passHours_12 (by decide) ?_
  refine go_istore_n (lv' := [(3, .int 0), (2, go_on q1), (0, .ref 0), (1, .int a0)]) dX11_passHours_13 (by decide) (by cases q1 <;> rfl) ?_
  show Go w 6 0 0 mtX11_passHours 14 [(3, .int 0), (2, go_on q1), (0, .ref 0), (1, .int a0)] [] (go_mk tx μ) (go_Z w Q)
  refine go_iconst (v := 0) dX11_passHours_14 (by decide) ?_
  refine go_istore dX11_passHours_15 (by decide) rfl ?_
  show Go w 6 0 0 mtX11_passHours 17 [(4, .int 0), (3, .int 0), (2, go_on q1), (0, .ref 0), (1, .int a0)] [] (go_mk tx μ) (go_Z w Q)
  obtain ⟨ρ4, hρ4, h⟩ := go_bind h
  refine go_pick [3, 4, 2, 1, 0] rfl ?_
  refine go_lp (G := ggX11_passHours_17 w tx Q a0 q1) (E := eeX11_passHours_17 w tx Q a0 q1) (fun s out h hK => lqX11_passHours_17 w tx Q a0 q1 (opX11_findText  hq1) s.1 s.2.1 s.2.2 out h hK) go_fuel (0, 0, μ) ρ4 hρ4 ?_
  cases h
  exact hK
theorem ctX11_passHours {w : go_Wd} {tx : Nat} {μ : PM} {a0 : Int32} {r : Int32} {μ1 : PM}  (h : fX11_passHours μ a0 = some (r, μ1)) : Ct w 6 0 0 mtX11_passHours [.ref 0, .int a0] (go_mk tx μ) (fun r' M' => r' = some (.int r) ∧ M' = go_mk tx μ1) :=
  go_entry rfl (by decide) (Nat.le_of_ble_eq_true rfl) (cmX11_passHours w tx _ μ a0 _ h ⟨rfl, rfl⟩)
def fX11_hour (μ : PM) (a0 : Int32) : Option (Int32 × PM) :=
  (if a0 < 1 then some (((-1), μ)) else (if 60 < a0 then some (((-1), μ)) else (if a0 ≤ (9999 - (μ.1 12 9)) then (fX11_passHours μ a0).bind fun q1 => some ((q1.1, q1.2)) else some (((-1), μ)))))
set_option maxRecDepth 20000 in
set_option maxHeartbeats 4000000 in
theorem cmX11_hour (w : go_Wd) (tx : Nat) (Q : Option Value → go_M → Prop) (μ : PM) (a0 : Int32) (out : Int32 × PM) (h : fX11_hour μ a0 = some out) (hK : Q (some (.int out.1)) (go_mk tx out.2)) : Go w 7 0 0 mtX11_hour 0 [(0, .ref 0), (1, .int a0)] [] (go_mk tx μ) (go_Z w Q) := by
  unfold fX11_hour at h
  refine go_iload_n dX11_hour_0 1 rfl ?_
  refine go_iconst (v := 1) dX11_hour_1 (by decide) ?_
  refine go_icmp_lt 26 dX11_hour_2 (by decide) (fun hc => ?_) (fun hc => ?_)
  · have h := go_ifp hc h
    refine go_iconst (v := (-1)) dX11_hour_26 (by decide) ?_
    cases h
    exact go_iret dX11_hour_27 rfl hK
  · have h := go_ifn hc h
    refine go_iload_n dX11_hour_5 1 rfl ?_
    refine go_bipush (v := 60) dX11_hour_6 (by decide) ?_
    refine go_icmp_gt 26 dX11_hour_8 (by decide) (fun hc => ?_) (fun hc => ?_)
    · have h := go_ifp hc h
      refine go_iconst (v := (-1)) dX11_hour_26 (by decide) ?_
      cases h
      exact go_iret dX11_hour_27 rfl hK
    · have h := go_ifn hc h
      refine go_iload_n dX11_hour_11 1 rfl ?_
      refine go_sipush (v := 9999) dX11_hour_12 (by decide) ?_
      refine go_aload_n dX11_hour_15 0 rfl ?_
      refine pp_getR dX11_hour_16 ff_X11_20 (Or.inl ⟨_, rfl⟩) sh_0 rf_0_1 ?_
      refine pp_getI dX11_hour_19 ff_X11_198 (by decide) go_isW_12.1 ?_
      refine go_isub dX11_hour_22 ?_
      refine go_icmp_le 28 dX11_hour_23 (by decide) (fun hc => ?_) (fun hc => ?_)
      · have h := go_ifp hc h
        refine go_aload_n dX11_hour_28 0 rfl ?_
        refine go_iload_n dX11_hour_29 1 rfl ?_
        obtain ⟨q1, hq1, h⟩ := go_bind h
        refine pp_callV (as := [.int a0]) (st := []) (rv := (some (.int q1.1))) (μ1 := q1.2) (st1 := [.int q1.1]) dX11_hour_30 ll_X11_201 sh_0 (by decide) rfl (ctX11_passHours  hq1) rfl (Nat.le_of_ble_eq_true rfl) (Nat.le_of_ble_eq_true rfl) (go_Z_up w _) rfl rfl ?_
        cases h
        exact go_iret dX11_hour_33 rfl hK
      · have h := go_ifn hc h
        refine go_iconst (v := (-1)) dX11_hour_26 (by decide) ?_
        cases h
        exact go_iret dX11_hour_27 rfl hK
theorem ctX11_hour {w : go_Wd} {tx : Nat} {μ : PM} {a0 : Int32} {r : Int32} {μ1 : PM}  (h : fX11_hour μ a0 = some (r, μ1)) : Ct w 7 0 0 mtX11_hour [.ref 0, .int a0] (go_mk tx μ) (fun r' M' => r' = some (.int r) ∧ M' = go_mk tx μ1) :=
  go_entry rfl (by decide) (Nat.le_of_ble_eq_true rfl) (cmX11_hour w tx _ μ a0 _ h ⟨rfl, rfl⟩)
def fX11_playClause (μ : PM) (a0 : Int32) (a1 : Int32) (a2 : Int32) : Option (Int32 × PM) :=
  (if a0 = 3 then (fX11_name μ a1 a2).bind fun q2 => (if q2.1 = (-1) then some ((0, q2.2)) else some ((1, q2.2))) else (if a0 = 4 then (fX11_family μ a1 a2).bind fun q4 => (if q4.1 = (-1) then some ((0, q4.2)) else some ((1, q4.2))) else (if a0 = 5 then (fX11_call μ a1).bind fun q6 => some ((q6.1, q6.2)) else (if a0 = 6 then (fX11_stone μ a1 1).bind fun q8 => some ((q8.1, q8.2)) else (if a0 = 7 then (fX11_stone μ a1 0).bind fun q10 => some ((q10.1, q10.2)) else (if a0 = 8 then (fX11_stand μ a1 a2).bind fun q12 => some ((q12.1, q12.2)) else (if a0 = 9 then (fX11_sink μ a1).bind fun q14 => some ((q14.1, q14.2)) else (if a0 = 10 then go_let ((jmin a1 (9999 - (μ.1 12 9)))) fun x16 => (fX11_passHours μ x16).bind fun q17 => (if x16 = a1 then some ((1, q17.2)) else some ((0, q17.2))) else some ((1, μ))))))))))
set_option maxRecDepth 20000 in
set_option maxHeartbeats 4000000 in
theorem cmX11_playClause (w : go_Wd) (tx : Nat) (Q : Option Value → go_M → Prop) (μ : PM) (a0 : Int32) (a1 : Int32) (a2 : Int32) (out : Int32 × PM) (h : fX11_playClause μ a0 a1 a2 = some out) (hK : Q (some (.int out.1)) (go_mk tx out.2)) : Go w 7 0 0 mtX11_playClause 0 [(0, .ref 0), (1, .int a0), (2, .int a1), (3, .int a2)] [] (go_mk tx μ) (go_Z w Q) := by
  unfold fX11_playClause at h
  refine go_iload_n dX11_playClause_0 1 rfl ?_
  by_cases hc1 : a0 = 3
  · have h := go_ifp hc1 h
    refine go_tabIn (off := 47) 48 dX11_playClause_1 3 hc1 (by decide) (by decide) (by decide) (by decide) ?_
    refine go_aload_n dX11_playClause_48 0 rfl ?_
    refine go_iload_n dX11_playClause_49 2 rfl ?_
    refine go_iload_n dX11_playClause_50 3 rfl ?_
    obtain ⟨q2, hq2, h⟩ := go_bind h
    refine pp_callV (as := [.int a1, .int a2]) (st := []) (rv := (some (.int q2.1))) (μ1 := q2.2) (st1 := [.int q2.1]) dX11_playClause_51 ll_X11_395 sh_0 (by decide) rfl (ctX11_name  hq2) rfl (Nat.le_of_ble_eq_true rfl) (Nat.le_of_ble_eq_true rfl) (go_Z_up w _) rfl rfl ?_
    refine go_iconst (v := (-1)) dX11_playClause_54 (by decide) ?_
    refine go_icmp_eq 62 dX11_playClause_55 (by decide) (fun hc => ?_) (fun hc => ?_)
    · have h := go_ifp hc h
      refine go_iconst (v := 0) dX11_playClause_62 (by decide) ?_
      cases h
      exact go_zret dX11_playClause_63 rfl (Or.inl rfl) hK
    · have h := go_ifn hc h
      refine go_iconst (v := 1) dX11_playClause_58 (by decide) ?_
      refine go_goto 63 dX11_playClause_59 (by decide) ?_
      cases h
      exact go_zret dX11_playClause_63 rfl (Or.inr rfl) hK
  · have h := go_ifn hc1 h
    by_cases hc3 : a0 = 4
    · have h := go_ifp hc3 h
      refine go_tabIn (off := 63) 64 dX11_playClause_1 4 hc3 (by decide) (by decide) (by decide) (by decide) ?_
      refine go_aload_n dX11_playClause_64 0 rfl ?_
      refine go_iload_n dX11_playClause_65 2 rfl ?_
      refine go_iload_n dX11_playClause_66 3 rfl ?_
      obtain ⟨q4, hq4, h⟩ := go_bind h
      refine pp_callV (as := [.int a1, .int a2]) (st := []) (rv := (some (.int q4.1))) (μ1 := q4.2) (st1 := [.int q4.1]) dX11_playClause_67 ll_X11_398 sh_0 (by decide) rfl (ctX11_family  hq4) rfl (Nat.le_of_ble_eq_true rfl) (Nat.le_of_ble_eq_true rfl) (go_Z_up w _) rfl rfl ?_
      refine go_iconst (v := (-1)) dX11_playClause_70 (by decide) ?_
      refine go_icmp_eq 78 dX11_playClause_71 (by decide) (fun hc => ?_) (fun hc => ?_)
      · have h := go_ifp hc h
        refine go_iconst (v := 0) dX11_playClause_78 (by decide) ?_
        cases h
        exact go_zret dX11_playClause_79 rfl (Or.inl rfl) hK
      · have h := go_ifn hc h
        refine go_iconst (v := 1) dX11_playClause_74 (by decide) ?_
        refine go_goto 79 dX11_playClause_75 (by decide) ?_
        cases h
        exact go_zret dX11_playClause_79 rfl (Or.inr rfl) hK
    · have h := go_ifn hc3 h
      by_cases hc5 : a0 = 5
      · have h := go_ifp hc5 h
        refine go_tabIn (off := 79) 80 dX11_playClause_1 5 hc5 (by decide) (by decide) (by decide) (by decide) ?_
        refine go_aload_n dX11_playClause_80 0 rfl ?_
        refine go_iload_n dX11_playClause_81 2 rfl ?_
        obtain ⟨q6, hq6, h⟩ := go_bind h
        refine pp_callV (as := [.int a1]) (st := []) (rv := (some (.int q6.1))) (μ1 := q6.2) (st1 := [.int q6.1]) dX11_playClause_82 ll_X11_401 sh_0 (by decide) rfl (ctX11_call  hq6) rfl (Nat.le_of_ble_eq_true rfl) (Nat.le_of_ble_eq_true rfl) (go_Z_up w _) rfl rfl ?_
        cases h
        exact go_zret dX11_playClause_85 rfl (bzX11_call hq6) hK
      · have h := go_ifn hc5 h
        by_cases hc7 : a0 = 6
        · have h := go_ifp hc7 h
          refine go_tabIn (off := 85) 86 dX11_playClause_1 6 hc7 (by decide) (by decide) (by decide) (by decide) ?_
          refine go_aload_n dX11_playClause_86 0 rfl ?_
          refine go_iload_n dX11_playClause_87 2 rfl ?_
          refine go_iconst (v := 1) dX11_playClause_88 (by decide) ?_
          obtain ⟨q8, hq8, h⟩ := go_bind h
          refine pp_callV (as := [.int a1, .int 1]) (st := []) (rv := (some (.int q8.1))) (μ1 := q8.2) (st1 := [.int q8.1]) dX11_playClause_89 ll_X11_404 sh_0 (by decide) rfl (ctX11_stone  hq8) rfl (Nat.le_of_ble_eq_true rfl) (Nat.le_of_ble_eq_true rfl) (go_Z_up w _) rfl rfl ?_
          cases h
          exact go_zret dX11_playClause_92 rfl (bzX11_stone hq8) hK
        · have h := go_ifn hc7 h
          by_cases hc9 : a0 = 7
          · have h := go_ifp hc9 h
            refine go_tabIn (off := 92) 93 dX11_playClause_1 7 hc9 (by decide) (by decide) (by decide) (by decide) ?_
            refine go_aload_n dX11_playClause_93 0 rfl ?_
            refine go_iload_n dX11_playClause_94 2 rfl ?_
            refine go_iconst (v := 0) dX11_playClause_95 (by decide) ?_
            obtain ⟨q10, hq10, h⟩ := go_bind h
            refine pp_callV (as := [.int a1, .int 0]) (st := []) (rv := (some (.int q10.1))) (μ1 := q10.2) (st1 := [.int q10.1]) dX11_playClause_96 ll_X11_404 sh_0 (by decide) rfl (ctX11_stone  hq10) rfl (Nat.le_of_ble_eq_true rfl) (Nat.le_of_ble_eq_true rfl) (go_Z_up w _) rfl rfl ?_
            cases h
            exact go_zret dX11_playClause_99 rfl (bzX11_stone hq10) hK
          · have h := go_ifn hc9 h
            by_cases hc11 : a0 = 8
            · have h := go_ifp hc11 h
              refine go_tabIn (off := 99) 100 dX11_playClause_1 8 hc11 (by decide) (by decide) (by decide) (by decide) ?_
              refine go_aload_n dX11_playClause_100 0 rfl ?_
              refine go_iload_n dX11_playClause_101 2 rfl ?_
              refine go_iload_n dX11_playClause_102 3 rfl ?_
              obtain ⟨q12, hq12, h⟩ := go_bind h
              refine pp_callV (as := [.int a1, .int a2]) (st := []) (rv := (some (.int q12.1))) (μ1 := q12.2) (st1 := [.int q12.1]) dX11_playClause_103 ll_X11_408 sh_0 (by decide) rfl (ctX11_stand  hq12) rfl (Nat.le_of_ble_eq_true rfl) (Nat.le_of_ble_eq_true rfl) (go_Z_up w _) rfl rfl ?_
              cases h
              exact go_zret dX11_playClause_106 rfl (bzX11_stand hq12) hK
            · have h := go_ifn hc11 h
              by_cases hc13 : a0 = 9
              · have h := go_ifp hc13 h
                refine go_tabIn (off := 106) 107 dX11_playClause_1 9 hc13 (by decide) (by decide) (by decide) (by decide) ?_
                refine go_aload_n dX11_playClause_107 0 rfl ?_
                refine go_iload_n dX11_playClause_108 2 rfl ?_
                obtain ⟨q14, hq14, h⟩ := go_bind h
                refine pp_callV (as := [.int a1]) (st := []) (rv := (some (.int q14.1))) (μ1 := q14.2) (st1 := [.int q14.1]) dX11_playClause_109 ll_X11_410 sh_0 (by decide) rfl (ctX11_sink  hq14) rfl (Nat.le_of_ble_eq_true rfl) (Nat.le_of_ble_eq_true rfl) (go_Z_up w _) rfl rfl ?_
                cases h
                exact go_zret dX11_playClause_112 rfl (bzX11_sink hq14) hK
              · have h := go_ifn hc13 h
                by_cases hc15 : a0 = 10
                · have h := go_ifp hc15 h
                  refine go_tabIn (off := 112) 113 dX11_playClause_1 10 hc15 (by decide) (by decide) (by decide) (by decide) ?_
                  refine go_iload_n dX11_playClause_113 2 rfl ?_
                  refine go_sipush (v := 9999) dX11_playClause_114 (by decide) ?_
                  refine go_aload_n dX11_playClause_117 0 rfl ?_
                  refine pp_getR dX11_playClause_118 ff_X11_20 (Or.inl ⟨_, rfl⟩) sh_0 rf_0_1 ?_
                  refine pp_getI dX11_playClause_121 ff_X11_198 (by decide) go_isW_12.1 ?_
                  refine go_isub dX11_playClause_124 ?_
                  refine go_mmin dX11_playClause_125 mm_X11_277 (by decide) (Nat.le_of_ble_eq_true rfl) ?_
                  refine go_top (x := (jmin a1 (9999 - (μ.1 12 9)))) rfl ?_
                  obtain ⟨x16, hx16, h⟩ := go_let_e h
                  refine go_top hx16 ?_
                  refine go_istore dX11_playClause_128 (by decide) rfl ?_
                  show Go w 7 0 0 mtX11_playClause 130 [(4, .int x16), (0, .ref 0), (1, .int a0), (2, .int a1), (3, .int a2)] [] (go_mk tx μ) (go_Z w Q)
                  refine go_aload_n dX11_playClause_130 1 rfl ?_
                  refine go_iload dX11_playClause_131 0 rfl ?_
                  obtain ⟨q17, hq17, h⟩ := go_bind h
                  refine pp_callV (as := [.int x16]) (st := []) (rv := (some (.int q17.1))) (μ1 := q17.2) (st1 := [.int q17.1]) dX11_playClause_133 ll_X11_201 sh_0 (by decide) rfl (ctX11_passHours  hq17) rfl (Nat.le_of_ble_eq_true rfl) (Nat.le_of_ble_eq_true rfl) (go_Z_up w _) rfl rfl ?_
                  refine go_pop dX11_playClause_136 rfl ?_
                  refine go_iload dX11_playClause_137 0 rfl ?_
                  refine go_iload_n dX11_playClause_139 3 rfl ?_
                  refine go_icmp_ne 147 dX11_playClause_140 (by decide) (fun hc => ?_) (fun hc => ?_)
                  · have h := go_ifn hc h
                    refine go_iconst (v := 0) dX11_playClause_147 (by decide) ?_
                    cases h
                    exact go_zret dX11_playClause_148 rfl (Or.inl rfl) hK
                  · have h := go_ifp hc h
                    refine go_iconst (v := 1) dX11_playClause_143 (by decide) ?_
                    refine go_goto 148 dX11_playClause_144 (by decide) ?_
                    cases h
                    exact go_zret dX11_playClause_148 rfl (Or.inr rfl) hK
                · have h := go_ifn hc15 h
                  refine go_tabOut 149 dX11_playClause_1 (by have g0 := go_ne_i (n := 3) hc1 (by decide); have g1 := go_ne_i (n := 4) hc3 (by decide); have g2 := go_ne_i (n := 5) hc5 (by decide); have g3 := go_ne_i (n := 6) hc7 (by decide); have g4 := go_ne_i (n := 7) hc9 (by decide); have g5 := go_ne_i (n := 8) hc11 (by decide); have g6 := go_ne_i (n := 9) hc13 (by decide); have g7 := go_ne_i (n := 10) hc15 (by decide); omega) (by decide) ?_
                  refine go_iconst (v := 1) dX11_playClause_149 (by decide) ?_
                  cases h
                  exact go_zret dX11_playClause_150 rfl (Or.inr rfl) hK
theorem ctX11_playClause {w : go_Wd} {tx : Nat} {μ : PM} {a0 : Int32} {a1 : Int32} {a2 : Int32} {r : Int32} {μ1 : PM}  (h : fX11_playClause μ a0 a1 a2 = some (r, μ1)) : Ct w 7 0 0 mtX11_playClause [.ref 0, .int a0, .int a1, .int a2] (go_mk tx μ) (fun r' M' => r' = some (.int r) ∧ M' = go_mk tx μ1) :=
  go_entry rfl (by decide) (Nat.le_of_ble_eq_true rfl) (cmX11_playClause w tx _ μ a0 a1 a2 _ h ⟨rfl, rfl⟩)