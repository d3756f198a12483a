def lbX11_played_15 (a0 : Int32) (v2 : Nat) (v3 : Int32) (μ : PM) : Option ((Int32 × PM) ⊕ (Int32 × PM)) :=
  (if (μ.1 v2 6) ≤ v3 then some (.inr (((-1), μ))) else (if 24 ≤ v3 then some (.inr (((-1), μ))) else go_chk v3 24 <| go_chk v3 24 <| go_chk v3 24 <| (fX11_playClause μ (μ.1 (v2 + 1) v3.toNatClampNeg) (μ.1 (v2 + 2) v3.toNatClampNeg) (μ.1 (v2 + 3) v3.toNatClampNeg)).bind fun q6 => (if q6.1 = 0 then some (.inr ((v3, q6.2))) else some (.inl ((v3 + 1), q6.2)))))
def fX11_played (μ : PM) (a0 : Int32) : Option (Int32 × PM) :=
  (fX11_findText μ a0).bind fun q1 => go_op q1 (some (((-2), μ))) (fun q2 => ((lp (fun s => lbX11_played_15 a0 q2 s.1 s.2) go_fuel (0, μ)).bind fun ρ7 => some ρ7))
def ggX11_played_15 (w : go_Wd) (tx : Nat) (Q : Option Value → go_M → Prop) (a0 : Int32) (v2 : Nat) (s : Int32 × PM) : Prop := Go w 8 0 0 mtX11_played 15 [(0, .ref 0), (2, .ref v2), (3, .int s.1)] [] (go_mk tx s.2) (go_Z w Q)
def eeX11_played_15 (w : go_Wd) (tx : Nat) (Q : Option Value → go_M → Prop) (a0 : Int32) (v2 : Nat) (y : Int32 × PM) : Prop := Q (some (.int y.1)) (go_mk tx y.2)
set_option maxRecDepth 20000 in
set_option maxHeartbeats 4000000 in
theorem lqX11_played_15 (w : go_Wd) (tx : Nat) (Q : Option Value → go_M → Prop) (a0 : Int32) (v2 : Nat) (hv2 : go_isT v2) (v3 : Int32) (μ : PM) (out : (Int32 × PM) ⊕ (Int32 × PM)) (h : lbX11_played_15 a0 v2 v3 μ = some out) (hK : go_out (ggX11_played_15 w tx Q a0 v2) (eeX11_played_15 w tx Q a0 v2) out) : ggX11_played_15 w tx Q a0 v2 (v3, μ) := by
  unfold lbX11_played_15 at h
  show Go w 8 0 0 mtX11_played 15 [(0, .ref 0), (2, .ref v2), (3, .int v3)] [] (go_mk tx μ) (go_Z w Q)
  refine go_iload_n dX11_played_15 2 rfl ?_
  refine go_aload_n dX11_played_16 1 rfl ?_
  refine pp_getI dX11_played_17 ff_X11_208 (by decide) hv2.1 ?_
  refine go_icmp_ge 62 dX11_played_20 (by decide) (fun hc => ?_) (fun hc => ?_)
  · have h := go_ifp hc h
    refine go_iconst (v := (-1)) dX11_played_62 (by decide) ?_
    cases h
    exact go_iret dX11_played_63 rfl hK
  · have h := go_ifn hc h
    refine go_iload_n dX11_played_23 2 rfl ?_
    refine go_bipush (v := 24) dX11_played_24 (by decide) ?_
    refine go_icmp_ge 62 dX11_played_26 (by decide) (fun hc => ?_) (fun hc => ?_)
    · have h := go_ifp hc h
      refine go_iconst (v := (-1)) dX11_played_62 (by decide) ?_
      cases h
      exact go_iret dX11_played_63 rfl hK
    · have h := go_ifn hc h
      refine go_aload_n dX11_played_29 0 rfl ?_
      refine go_aload_n dX11_played_30 1 rfl ?_
      refine pp_getR dX11_played_31 ff_X11_211 (Or.inr ⟨_, rfl⟩) hv2.1 (go_RF_ne hv2.2.2.2.2.2.2.2.2.2.2.2.2.2 hv2.2.2.2.2.2.2.2.1) ?_
      refine go_iload_n dX11_played_34 2 rfl ?_
      obtain ⟨hz3, h⟩ := go_chk_e h
      refine pp_ild dX11_played_35 hv2.2.1 hz3 ?_
      refine go_aload_n dX11_played_36 1 rfl ?_
      refine pp_getR dX11_played_37 ff_X11_214 (Or.inr ⟨_, rfl⟩) hv2.1 (go_RF_ne hv2.2.2.2.2.2.2.2.2.2.2.2.2.2 hv2.2.2.2.2.2.2.2.2.1) ?_
      refine go_iload_n dX11_played_40 2 rfl ?_
      obtain ⟨hz4, h⟩ := go_chk_e h
      refine pp_ild dX11_played_41 hv2.2.2.1 hz4 ?_
      refine go_aload_n dX11_played_42 1 rfl ?_
      refine pp_getR dX11_played_43 ff_X11_217 (Or.inr ⟨_, rfl⟩) hv2.1 (go_RF_ne hv2.2.2.2.2.2.2.2.2.2.2.2.2.2 hv2.2.2.2.2.2.2.2.2.2.1) ?_
      refine go_iload_n dX11_played_46 2 rfl ?_
      obtain ⟨hz5, h⟩ := go_chk_e h
      refine pp_ild dX11_played_47 hv2.2.2.2.1 hz5 ?_
      obtain ⟨q6, hq6, h⟩ := go_bind h
      refine pp_callV (as := [.int (μ.1 (v2 + 1) v3.toNatClampNeg), .int (μ.1 (v2 + 2) v3.toNatClampNeg), .int (μ.1 (v2 + 3) v3.toNatClampNeg)]) (st := []) (rv := (some (.int q6.1))) (μ1 := q6.2) (st1 := [.int q6.1]) dX11_played_48 ll_X11_220 sh_0 (by decide) rfl (ctX11_playClause  hq6) rfl (Nat.le_of_ble_eq_true rfl) (Nat.le_of_ble_eq_true rfl) (go_Z_up w _) rfl rfl ?_
      refine go_if_ne 56 dX11_played_51 (by decide) (fun hc => ?_) (fun hc => ?_)
      · have h := go_ifn hc h
        refine go_iinc (v := (v3 + 1)) dX11_played_56 2 rfl rfl (by decide) rfl ?_
        show Go w 8 0 0 mtX11_played 59 [(3, .int (v3 + 1)), (0, .ref 0), (2, .ref v2)] [] (go_mk tx q6.2) (go_Z w Q)
        refine go_goto 15 dX11_played_59 (by decide) ?_
        cases h
        have hK : Go w 8 0 0 mtX11_played 15 [(0, .ref 0), (2, .ref v2), (3, .int (v3 + 1))] [] (go_mk tx q6.2) (go_Z w Q) := hK
        exact go_pick [1, 2, 0] rfl hK
      · have h := go_ifp hc h
        refine go_iload_n dX11_played_54 2 rfl ?_
        cases h
        exact go_iret dX11_played_55 rfl hK
set_option maxRecDepth 20000 in
set_option maxHeartbeats 4000000 in
theorem cmX11_played (w : go_Wd) (tx : Nat) (Q : Option Value → go_M → Prop) (μ : PM) (a0 : Int32) (out : Int32 × PM) (h : fX11_played μ a0 = some out) (hK : Q (some (.int out.1)) (go_mk tx out.2)) : Go w 8 0 0 mtX11_played 0 [(0, .ref 0), (1, .int a0)] [] (go_mk tx μ) (go_Z w Q) := by
  unfold fX11_played at h
  refine go_aload_n dX11_played_0 0 rfl ?_
  refine go_iload_n dX11_played_1 1 rfl ?_
  obtain ⟨q1, hq1, h⟩ := go_bind h
  refine pp_callV (as := [.int a0]) (st := []) (rv := (some (go_on q1))) (μ1 := μ) (st1 := [go_on q1]) dX11_played_2 ll_X11_204 sh_0 (by decide) rfl (ctX11_findText  hq1) rfl (Nat.le_of_ble_eq_true rfl) (Nat.le_of_ble_eq_true rfl) (go_Z_up w _) rfl rfl ?_
  refine go_astoreO dX11_played_5 (by decide) rfl ?_
  show Go w 8 0 0 mtX11_played 6 [(2, go_on q1), (0, .ref 0), (1, .int a0)] [] (go_mk tx μ) (go_Z w Q)
  refine go_aloadO dX11_played_6 0 rfl ?_
  rcases q1 with _ | q2
  · have h := go_opn h
    refine go_ifnonnullN dX11_played_7 ?_
    refine go_bipush (v := (-2)) dX11_played_10 (by decide) ?_
    cases h
    exact go_iret dX11_played_12 rfl hK
  · have h := go_ops h
    have hq2 := (opX11_findText  hq1) q2 rfl
    refine go_ifnonnull 13 dX11_played_7 (by decide) ?_
    refine go_iconst (v := 0) dX11_played_13 (by decide) ?_
    refine go_istore_n dX11_played_14 (by decide) rfl ?_
    show Go w 8 0 0 mtX11_played 15 [(3, .int 0), (2, .ref q2), (0, .ref 0), (1, .int a0)] [] (go_mk tx μ) (go_Z w Q)
    obtain ⟨ρ7, hρ7, h⟩ := go_bind h
    refine go_pick [2, 1, 0] rfl ?_
    refine go_lp (G := ggX11_played_15 w tx Q a0 q2) (E := eeX11_played_15 w tx Q a0 q2) (fun s out h hK => lqX11_played_15 w tx Q a0 q2 (hq2) s.1 s.2 out h hK) go_fuel (0, μ) ρ7 hρ7 ?_
    cases h
    exact hK
theorem ctX11_played {w : go_Wd} {tx : Nat} {μ : PM} {a0 : Int32} {r : Int32} {μ1 : PM}  (h : fX11_played μ a0 = some (r, μ1)) : Ct w 8 0 0 mtX11_played [.ref 0, .int a0] (go_mk tx μ) (fun r' M' => r' = some (.int r) ∧ M' = go_mk tx μ1) :=
  go_entry rfl (by decide) (Nat.le_of_ble_eq_true rfl) (cmX11_played w tx _ μ a0 _ h ⟨rfl, rfl⟩)
def jjX11_spring_55 (μ : PM) (a0 : Int32) (v2 : Int32) (v3 : Int32) (s0 : Int32) : Option (PM) :=
  (if (jrem a0 7) = 0 then (fX10_isFrozen μ 12 v3).bind fun q3 => (if q3 = 0 then some (μ) else go_chk v3 6 <| go_let (pm_wi μ 13 v3.toNatClampNeg 0) fun μ4 => some (μ4)) else (if (jrem a0 7) = 1 then go_let (pm_wi μ 12 7 ((μ.1 12 7) ||| ((1 : Int32) <<< (v2 &&& 31)))) fun μ7 => some (μ7) else (if (jrem a0 7) = 2 then go_let (pm_wi μ 12 7 ((μ.1 12 7) &&& (((1 : Int32) <<< (v2 &&& 31)) ^^^ (-1)))) fun μ9 => some (μ9) else (if (jrem a0 7) = 3 then (if (fX11_isFamily μ s0) = 0 then some (μ) else go_chk s0 5 <| go_let (pm_wi μ 15 s0.toNatClampNeg v2) fun μ11 => some (μ11)) else (if (jrem a0 7) = 4 then (fX10_isClaimed μ 12 v3).bind fun q14 => (if q14 = 0 then some (μ) else go_chk v3 6 <| go_let (pm_wi μ 13 v3.toNatClampNeg 0) fun μ15 => some (μ15)) else (if 9999 ≤ (μ.1 12 9) then some (μ) else (fX11_findText μ (μ.1 1 14)).bind fun q17 => (fX0_passHour μ q17 12).bind fun q18 => some (q18.2)))))))
def jjX11_spring_31 (μ : PM) (a0 : Int32) (v2 : Int32) (s0 : Int32) : Option (PM) :=
  (if (μ.1 12 6) ≤ 0 then jjX11_spring_55 μ a0 v2 s0 ((-1)) else go_nz (μ.1 12 6) <| jjX11_spring_55 μ a0 v2 s0 ((jrem a0 (μ.1 12 6))))
def fX11_spring (μ : PM) (a0 : Int32) : Option (PM) :=
  go_let ((jrem (a0 / 7) 10)) fun x1 => (if (μ.1 12 5) ≤ 0 then jjX11_spring_31 μ a0 x1 ((-1)) else go_nz (μ.1 12 5) <| jjX11_spring_31 μ a0 x1 ((jrem a0 (μ.1 12 5))))
set_option maxRecDepth 20000 in
set_option maxHeartbeats 4000000 in
theorem jqX11_spring_55 (w : go_Wd) (tx : Nat) (Q : Option Value → go_M → Prop) (μ : PM) (a0 : Int32) (v2 : Int32) (v3 : Int32)  (s0 : Int32)  (out : PM) (h : jjX11_spring_55 μ a0 v2 v3 s0 = some out) (hK : Q none (go_mk tx out)) : Go w 6 0 0 mtX11_spring 55 [(0, .ref 0), (1, .int a0), (2, .int v2), (3, .int v3)] [.int s0] (go_mk tx μ) (go_Z w Q) := by
  unfold jjX11_spring_55 at h
  refine go_istore dX11_spring_55 (by decide) rfl ?_
  show Go w 6 0 0 mtX11_spring 57 [(4, .int s0), (0, .ref 0), (1, .int a0), (2, .int v2), (3, .int v3)] [] (go_mk tx μ) (go_Z w Q)
  refine go_iload_n dX11_spring_57 2 rfl ?_
  refine go_bipush (v := 7) dX11_spring_58 (by decide) ?_
  refine go_iremJ dX11_spring_60 (by decide) ?_
  by_cases hc2 : (jrem a0 7) = 0
  · have h := go_ifp hc2 h
    refine go_tabIn (off := 35) 96 dX11_spring_61 0 hc2 (by decide) (by decide) (by decide) (by decide) ?_
    refine go_aload_n dX11_spring_96 1 rfl ?_
    refine pp_getR dX11_spring_97 ff_X11_20 (Or.inl ⟨_, rfl⟩) sh_0 rf_0_1 ?_
    refine go_iload_n dX11_spring_100 4 rfl ?_
    obtain ⟨q3, hq3, h⟩ := go_bind h
    refine pp_callV (as := [.int v3]) (st := []) (rv := (some (.int q3))) (μ1 := μ) (st1 := [.int q3]) dX11_spring_101 ll_X11_172 go_isW_12.1 (by decide) rfl (ctX10_isFrozen go_isW_12 hq3) rfl (Nat.le_of_ble_eq_true rfl) (Nat.le_of_ble_eq_true rfl) (go_Z_up w _) rfl rfl ?_
    refine go_if_eq 241 dX11_spring_104 (by decide) (fun hc => ?_) (fun hc => ?_)
    · have h := go_ifp hc h
      cases h
      exact go_vret dX11_spring_241 rfl hK
    · have h := go_ifn hc h
      refine go_aload_n dX11_spring_107 1 rfl ?_
      refine pp_getR dX11_spring_108 ff_X11_20 (Or.inl ⟨_, rfl⟩) sh_0 rf_0_1 ?_
      refine pp_getR dX11_spring_111 ff_X11_115 (Or.inr ⟨_, rfl⟩) go_isW_12.1 rf_12_0 ?_
      refine go_iload_n dX11_spring_114 4 rfl ?_
      refine go_iconst (v := 0) dX11_spring_115 (by decide) ?_
      obtain ⟨hz5, h⟩ := go_chk_e h
      obtain ⟨μ4, hμ4, h⟩ := go_let_e h
      refine pp_ist dX11_spring_116 sh_13 hz5 hμ4 ?_
      refine go_goto 241 dX11_spring_117 (by decide) ?_
      cases h
      exact go_vret dX11_spring_241 rfl hK
  · have h := go_ifn hc2 h
    by_cases hc6 : (jrem a0 7) = 1
    · have h := go_ifp hc6 h
      refine go_tabIn (off := 59) 120 dX11_spring_61 1 hc6 (by decide) (by decide) (by decide) (by decide) ?_
      refine go_aload_n dX11_spring_120 1 rfl ?_
      refine pp_getR dX11_spring_121 ff_X11_20 (Or.inl ⟨_, rfl⟩) sh_0 rf_0_1 ?_
      refine go_dup dX11_spring_124 rfl ?_
      refine pp_getI dX11_spring_125 ff_X11_185 (by decide) go_isW_12.1 ?_
      refine go_iconst (v := 1) dX11_spring_128 (by decide) ?_
      refine go_iload_n dX11_spring_129 3 rfl ?_
      refine go_ishl dX11_spring_130 ?_
      refine go_ior dX11_spring_131 ?_
      obtain ⟨μ7, hμ7, h⟩ := go_let_e h
      refine pp_putI dX11_spring_132 ff_X11_185 (Or.inl rfl) go_isW_12.1 hμ7 ?_
      refine go_goto 241 dX11_spring_135 (by decide) ?_
      cases h
      exact go_vret dX11_spring_241 rfl hK
    · have h := go_ifn hc6 h
      by_cases hc8 : (jrem a0 7) = 2
      · have h := go_ifp hc8 h
        refine go_tabIn (off := 77) 138 dX11_spring_61 2 hc8 (by decide) (by decide) (by decide) (by decide) ?_
        refine go_aload_n dX11_spring_138 1 rfl ?_
        refine pp_getR dX11_spring_139 ff_X11_20 (Or.inl ⟨_, rfl⟩) sh_0 rf_0_1 ?_
        refine go_dup dX11_spring_142 rfl ?_
        refine pp_getI dX11_spring_143 ff_X11_185 (by decide) go_isW_12.1 ?_
        refine go_iconst (v := 1) dX11_spring_146 (by decide) ?_
        refine go_iload_n dX11_spring_147 3 rfl ?_
        refine go_ishl dX11_spring_148 ?_
        refine go_iconst (v := (-1)) dX11_spring_149 (by decide) ?_
        refine go_ixor dX11_spring_150 ?_
        refine go_iand dX11_spring_151 ?_
        obtain ⟨μ9, hμ9, h⟩ := go_let_e h
        refine pp_putI dX11_spring_152 ff_X11_185 (Or.inl rfl) go_isW_12.1 hμ9 ?_
        refine go_goto 241 dX11_spring_155 (by decide) ?_
        cases h
        exact go_vret dX11_spring_241 rfl hK
      · have h := go_ifn hc8 h
        by_cases hc10 : (jrem a0 7) = 3
        · have h := go_ifp hc10 h
          refine go_tabIn (off := 97) 158 dX11_spring_61 3 hc10 (by decide) (by decide) (by decide) (by decide) ?_
          refine go_aload_n dX11_spring_158 1 rfl ?_
          refine go_iload dX11_spring_159 0 rfl ?_
          refine pp_callV (as := [.int s0]) (st := []) (rv := (some (.int (fX11_isFamily μ s0)))) (μ1 := μ) (st1 := [.int (fX11_isFamily μ s0)]) dX11_spring_161 ll_X11_192 sh_0 (by decide) rfl (ctX11_isFamily  rfl) rfl (Nat.le_of_ble_eq_true rfl) (Nat.le_of_ble_eq_true rfl) (go_Z_up w _) rfl rfl ?_
          refine go_if_eq 241 dX11_spring_164 (by decide) (fun hc => ?_) (fun hc => ?_)
          · have h := go_ifp hc h
            cases h
            exact go_vret dX11_spring_241 rfl hK
          · have h := go_ifn hc h
            refine go_aload_n dX11_spring_167 1 rfl ?_
            refine pp_getR dX11_spring_168 ff_X11_20 (Or.inl ⟨_, rfl⟩) sh_0 rf_0_1 ?_
            refine pp_getR dX11_spring_171 ff_X11_134 (Or.inr ⟨_, rfl⟩) go_isW_12.1 rf_12_2 ?_
            refine go_iload dX11_spring_174 0 rfl ?_
            refine go_iload_n dX11_spring_176 3 rfl ?_
            obtain ⟨hz12, h⟩ := go_chk_e h
            obtain ⟨μ11, hμ11, h⟩ := go_let_e h
            refine pp_ist dX11_spring_177 sh_15 hz12 hμ11 ?_
            refine go_goto 241 dX11_spring_178 (by decide) ?_
            cases h
            exact go_vret dX11_spring_241 rfl hK
        · have h := go_ifn hc10 h
          by_cases hc13 : (jrem a0 7) = 4
          · have h := go_ifp hc13 h
            refine go_tabIn (off := 120) 181 dX11_spring_61 4 hc13 (by decide) (by decide) (by decide) (by decide) ?_
            refine go_aload_n dX11_spring_181 1 rfl ?_
            refine pp_getR dX11_spring_182 ff_X11_20 (Or.inl ⟨_, rfl⟩) sh_0 rf_0_1 ?_
            refine go_iload_n dX11_spring_185 4 rfl ?_
            obtain ⟨q14, hq14, h⟩ := go_bind h
            refine pp_callV (as := [.int v3]) (st := []) (rv := (some (.int q14))) (μ1 := μ) (st1 := [.int q14]) dX11_spring_186 ll_X11_195 go_isW_12.1 (by decide) rfl (ctX10_isClaimed go_isW_12 hq14) rfl (Nat.le_of_ble_eq_true rfl) (Nat.le_of_ble_eq_true rfl) (go_Z_up w _) rfl rfl ?_
            refine go_if_eq 241 dX11_spring_189 (by decide) (fun hc => ?_) (fun hc => ?_)
            · have h := go_ifp hc h
              cases h
              exact go_vret dX11_spring_241 rfl hK
            · have h := go_ifn hc h
              refine go_aload_n dX11_spring_192 1 rfl ?_
              refine pp_getR dX11_spring_193 ff_X11_20 (Or.inl ⟨_, rfl⟩) sh_0 rf_0_1 ?_
              refine pp_getR dX11_spring_196 ff_X11_115 (Or.inr ⟨_, rfl⟩) go_isW_12.1 rf_12_0 ?_
              refine go_iload_n dX11_spring_199 4 rfl ?_
              refine go_iconst (v := 0) dX11_spring_200 (by decide) ?_
              obtain ⟨hz16, h⟩ := go_chk_e h
              obtain ⟨μ15, hμ15, h⟩ := go_let_e h
              refine pp_ist dX11_spring_201 sh_13 hz16 hμ15 ?_
              refine go_goto 241 dX11_spring_202 (by decide) ?_
              cases h
              exact go_vret dX11_spring_241 rfl hK
          · have h := go_ifn hc13 h
            refine go_tabOut 205 dX11_spring_61 (by have g0 := go_ne_i (n := 0) hc2 (by decide); have g1 := go_ne_i (n := 1) hc6 (by decide); have g2 := go_ne_i (n := 2) hc8 (by decide); have g3 := go_ne_i (n := 3) hc10 (by decide); have g4 := go_ne_i (n := 4) hc13 (by decide); omega) (by decide) ?_
            refine go_aload_n dX11_spring_205 1 rfl ?_
            refine pp_getR dX11_spring_206 ff_X11_20 (Or.inl ⟨_, rfl⟩) sh_0 rf_0_1 ?_
            refine pp_getI dX11_spring_209 ff_X11_198 (by decide) go_isW_12.1 ?_
            refine go_sipush (v := 9999) dX11_spring_212 (by decide) ?_
            refine go_icmp_ge 241 dX11_spring_215 (by decide) (fun hc => ?_) (fun hc => ?_)
            · have h := go_ifp hc h
              cases h
              exact go_vret dX11_spring_241 rfl hK
            · have h := go_ifn hc h
              refine go_aload_n dX11_spring_218 1 rfl ?_
              refine pp_getR dX11_spring_219 ff_X11_64 (Or.inl ⟨_, rfl⟩) sh_0 rf_0_8 ?_
              refine go_aload_n dX11_spring_222 1 rfl ?_
              refine go_aload_n dX11_spring_223 1 rfl ?_
              refine pp_getR dX11_spring_224 ff_X11_10 (Or.inl ⟨_, rfl⟩) sh_0 rf_0_0 ?_
              refine pp_getI dX11_spring_227 ff_X11_169 (by decide) go_isV_1.1 ?_
              obtain ⟨q17, hq17, h⟩ := go_bind h
              refine pp_callV (as := [.int (μ.1 1 14)]) (st := [.ref 386]) (rv := (some (go_on q17))) (μ1 := μ) (st1 := [go_on q17, .ref 386]) dX11_spring_230 ll_X11_204 sh_0 (by decide) rfl (ctX11_findText  hq17) rfl (Nat.le_of_ble_eq_true rfl) (Nat.le_of_ble_eq_true rfl) (go_Z_up w _) rfl rfl ?_
              refine go_aload_n dX11_spring_233 1 rfl ?_
              refine pp_getR dX11_spring_234 ff_X11_20 (Or.inl ⟨_, rfl⟩) sh_0 rf_0_1 ?_
              obtain ⟨q18, hq18, h⟩ := go_bind h
              refine pp_callV (as := [go_on q17, .ref 12]) (st := []) (rv := (some (.int q18.1))) (μ1 := q18.2) (st1 := [.int q18.1]) dX11_spring_237 ll_X11_282 sh_386 (by decide) rfl (ctX0_passHour (opX11_findText  hq17) go_isW_12 hq18) rfl (Nat.le_of_ble_eq_true rfl) (Nat.le_of_ble_eq_true rfl) (go_Z_up w _) rfl rfl ?_
              refine go_pop dX11_spring_240 rfl ?_
              cases h
              exact go_vret dX11_spring_241 rfl hK
set_option maxRecDepth 20000 in
set_option maxHeartbeats 4000000 in
theorem jqX11_spring_31 (w : go_Wd) (tx : Nat) (Q : Option Value → go_M → Prop) (μ : PM) (a0 : Int32) (v2 : Int32)  (s0 : Int32)  (out : PM) (h : jjX11_spring_31 μ a0 v2 s0 = some out) (hK : Q none (go_mk tx out)) : Go w 6 0 0 mtX11_spring 31 [(0, .ref 0), (1, .int a0), (2, .int v2)] [.int s0] (go_mk tx μ) (go_Z w Q) := by
  unfold jjX11_spring_31 at h
  refine go_istore_n dX11_spring_31 (by decide) rfl ?_
  show Go w 6 0 0 mtX11_spring 32 [(3, .int s0), (0, .ref 0), (1, .int a0), (2, .int v2)] [] (go_mk tx μ) (go_Z w Q)
  refine go_aload_n dX11_spring_32 1 rfl ?_
  refine pp_getR dX11_spring_33 ff_X11_20 (Or.inl ⟨_, rfl⟩) sh_0 rf_0_1 ?_
  refine pp_getI dX11_spring_36 ff_X11_121 (by decide) go_isW_12.1 ?_
  refine go_if_le 54 dX11_spring_39 (by decide) (fun hc => ?_) (fun hc => ?_)
  · have h := go_ifp hc h
    refine go_iconst (v := (-1)) dX11_spring_54 (by decide) ?_
    refine go_pick [1, 2, 3, 0] rfl ?_
    exact jqX11_spring_55 w tx Q μ a0 v2 s0  ((-1))  _ h hK
  · have h := go_ifn hc h
    refine go_iload_n dX11_spring_42 2 rfl ?_
    refine go_aload_n dX11_spring_43 1 rfl ?_
    refine pp_getR dX11_spring_44 ff_X11_20 (Or.inl ⟨_, rfl⟩) sh_0 rf_0_1 ?_
    refine pp_getI dX11_spring_47 ff_X11_121 (by decide) go_isW_12.1 ?_
    obtain ⟨hz19, h⟩ := go_nz_e h
    refine go_iremJ dX11_spring_50 hz19 ?_
    refine go_goto 55 dX11_spring_51 (by decide) ?_
    refine go_pick [1, 2, 3, 0] rfl ?_
    exact jqX11_spring_55 w tx Q μ a0 v2 s0  ((jrem a0 (μ.1 12 6)))  _ h hK
set_option maxRecDepth 20000 in
set_option maxHeartbeats 4000000 in
theorem cmX11_spring (w : go_Wd) (tx : Nat) (Q : Option Value → go_M → Prop) (μ : PM) (a0 : Int32) (out : PM) (h : fX11_spring μ a0 = some out) (hK : Q none (go_mk tx out)) : Go w 6 0 0 mtX11_spring 0 [(0, .ref 0), (1, .int a0)] [] (go_mk tx μ) (go_Z w Q) := by
  unfold fX11_spring at h
  refine go_iload_n dX11_spring_0 1 rfl ?_
  refine go_bipush (v := 7) dX11_spring_1 (by decide) ?_
  refine go_idiv dX11_spring_3 (by decide) ?_
  refine go_bipush (v := 10) dX11_spring_4 (by decide) ?_
  refine go_iremJ dX11_spring_6 (by decide) ?_
  obtain ⟨x1, hx1, h⟩ := go_let_e h
  refine go_top hx1 ?_
  refine go_istore_n dX11_spring_7 (by decide) rfl ?_
  show Go w 6 0 0 mtX11_spring 8 [(2, .int x1), (0, .ref 0), (1, .int a0)] [] (go_mk tx μ) (go_Z w Q)
  refine go_aload_n dX11_spring_8 1 rfl ?_
  refine pp_getR dX11_spring_9 ff_X11_20 (Or.inl ⟨_, rfl⟩) sh_0 rf_0_1 ?_
  refine pp_getI dX11_spring_12 ff_X11_106 (by decide) go_isW_12.1 ?_
  refine go_if_le 30 dX11_spring_15 (by decide) (fun hc => ?_) (fun hc => ?_)
  · have h := go_ifp hc h
    refine go_iconst (v := (-1)) dX11_spring_30 (by decide) ?_
    refine go_pick [1, 2, 0] rfl ?_
    exact jqX11_spring_31 w tx Q μ a0 x1  ((-1))  _ h hK
  · have h := go_ifn hc h
    refine go_iload_n dX11_spring_18 2 rfl ?_
    refine go_aload_n dX11_spring_19 1 rfl ?_
    refine pp_getR dX11_spring_20 ff_X11_20 (Or.inl ⟨_, rfl⟩) sh_0 rf_0_1 ?_
    refine pp_getI dX11_spring_23 ff_X11_106 (by decide) go_isW_12.1 ?_
    obtain ⟨hz20, h⟩ := go_nz_e h
    refine go_iremJ dX11_spring_26 hz20 ?_
    refine go_goto 31 dX11_spring_27 (by decide) ?_
    refine go_pick [1, 2, 0] rfl ?_
    exact jqX11_spring_31 w tx Q μ a0 x1  ((jrem a0 (μ.1 12 5)))  _ h hK
theorem ctX11_spring {w : go_Wd} {tx : Nat} {μ : PM} {a0 : Int32} {μ1 : PM}  (h : fX11_spring μ a0 = some μ1) : Ct w 6 0 0 mtX11_spring [.ref 0, .int a0] (go_mk tx μ) (fun r' M' => r' = none ∧ M' = go_mk tx μ1) :=
  go_entry rfl (by decide) (Nat.le_of_ble_eq_true rfl) (cmX11_spring w tx _ μ a0 _ h ⟨rfl, rfl⟩)
def lbX11_springs_54 (a0 : Int32) (a1 : Int32)  (v3 : Int32) (μ : PM) : Option ((Int32 × PM) ⊕ (Int32 × PM)) :=
  (if a1 ≤ v3 then some (.inr (((μ.1 12 9), μ))) else go_let (fX10_renewX μ 12) fun q3 => (fX11_spring q3 (μ.1 12 10)).bind fun q4 => some (.inl ((v3 + 1), q4)))
def fX11_springs (μ : PM) (a0 : Int32) (a1 : Int32) : Option (Int32 × PM) :=
  (if a0 < 0 then some (((-1), μ)) else (if 9999 < a0 then some (((-1), μ)) else (if a1 < 1 then some (((-1), μ)) else (if a1 ≤ 40 then (fX7_keep μ 17 12).bind fun q1 => go_let (pm_wi q1 12 10 ((a0 * 2) + 307)) fun μ2 => ((lp (fun s => lbX11_springs_54 a0 a1 s.1 s.2) go_fuel (0, μ2)).bind fun ρ5 => some ρ5) else some (((-1), μ))))))
def ggX11_springs_54 (w : go_Wd) (tx : Nat) (Q : Option Value → go_M → Prop) (a0 : Int32) (a1 : Int32)  (s : Int32 × PM) : Prop := Go w 7 0 0 mtX11_springs 54 [(0, .ref 0), (2, .int a1), (3, .int s.1)] [] (go_mk tx s.2) (go_Z w Q)
def eeX11_springs_54 (w : go_Wd) (tx : Nat) (Q : Option Value → go_M → Prop) (a0 : Int32) (a1 : Int32)  (y : Int32 × PM) : Prop := Q (some (.int y.1)) (go_mk tx y.2)
set_option maxRecDepth 20000 in
set_option maxHeartbeats 4000000 in
theorem lqX11_springs_54 (w : go_Wd) (tx : Nat) (Q : Option Value → go_M → Prop) (a0 : Int32) (a1 : Int32)   (v3 : Int32) (μ : PM) (out : (Int32 × PM) ⊕ (Int32 × PM)) (h : lbX11_springs_54 a0 a1  v3 μ = some out) (hK : go_out (ggX11_springs_54 w tx Q a0 a1 ) (eeX11_springs_54 w tx Q a0 a1 ) out) : ggX11_springs_54 w tx Q a0 a1  (v3, μ) := by
  unfold lbX11_springs_54 at h
  show Go w 7 0 0 mtX11_springs 54 [(0, .ref 0), (2, .int a1), (3, .int v3)] [] (go_mk tx μ) (go_Z w Q)
  refine go_iload_n dX11_springs_54 2 rfl ?_
  refine go_iload_n dX11_springs_55 1 rfl ?_
  refine go_icmp_ge 87 dX11_springs_56 (by decide) (fun hc => ?_) (fun hc => ?_)
  · have h := go_ifp hc h
    refine go_aload_n dX11_springs_87 0 rfl ?_
    refine pp_getR dX11_springs_88 ff_X11_20 (Or.inl ⟨_, rfl⟩) sh_0 rf_0_1 ?_
    refine pp_getI dX11_springs_91 ff_X11_198 (by decide) go_isW_12.1 ?_
    cases h
    exact go_iret dX11_springs_94 rfl hK
  · have h := go_ifn hc h
    refine go_aload_n dX11_springs_59 0 rfl ?_
    refine pp_getR dX11_springs_60 ff_X11_20 (Or.inl ⟨_, rfl⟩) sh_0 rf_0_1 ?_
    refine pp_getI dX11_springs_63 ff_X11_224 (by decide) go_isW_12.1 ?_
    refine go_istore dX11_springs_66 (by decide) rfl ?_
    show Go w 7 0 0 mtX11_springs 68 [(4, .int (μ.1 12 10)), (0, .ref 0), (2, .int a1), (3, .int v3)] [] (go_mk tx μ) (go_Z w Q)
    refine go_aload_n dX11_springs_68 1 rfl ?_
    refine pp_getR dX11_springs_69 ff_X11_20 (Or.inl ⟨_, rfl⟩) sh_0 rf_0_1 ?_
    obtain ⟨q3, hq3, h⟩ := go_let_e h
    refine pp_callV (as := []) (st := []) (rv := none) (μ1 := q3) (st1 := []) dX11_springs_72 ll_X11_227 go_isW_12.1 (by decide) rfl (ctX10_renewX go_isW_12 hq3.symm) rfl (Nat.le_of_ble_eq_true rfl) (Nat.le_of_ble_eq_true rfl) (go_Z_up w _) rfl rfl ?_
    refine go_aload_n dX11_springs_75 1 rfl ?_
    refine go_iload dX11_springs_76 0 rfl ?_
    obtain ⟨q4, hq4, h⟩ := go_bind h
    refine pp_callV (as := [.int (μ.1 12 10)]) (st := []) (rv := none) (μ1 := q4) (st1 := []) dX11_springs_78 ll_X11_230 sh_0 (by decide) rfl (ctX11_spring  hq4) rfl (Nat.le_of_ble_eq_true rfl) (Nat.le_of_ble_eq_true rfl) (go_Z_up w _) rfl rfl ?_
    refine go_iinc (v := (v3 + 1)) dX11_springs_81 3 rfl rfl (by decide) rfl ?_
    show Go w 7 0 0 mtX11_springs 84 [(3, .int (v3 + 1)), (4, .int (μ.1 12 10)), (0, .ref 0), (2, .int a1)] [] (go_mk tx q4) (go_Z w Q)
    refine go_goto 54 dX11_springs_84 (by decide) ?_
    cases h
    have hK : Go w 7 0 0 mtX11_springs 54 [(0, .ref 0), (2, .int a1), (3, .int (v3 + 1))] [] (go_mk tx q4) (go_Z w Q) := hK
    exact go_pick [2, 3, 0] rfl hK
set_option maxRecDepth 20000 in
set_option maxHeartbeats 4000000 in
theorem cmX11_springs (w : go_Wd) (tx : Nat) (Q : Option Value → go_M → Prop) (μ : PM) (a0 : Int32) (a1 : Int32) (out : Int32 × PM) (h : fX11_springs μ a0 a1 = some out) (hK : Q (some (.int out.1)) (go_mk tx out.2)) : Go w 7 0 0 mtX11_springs 0 [(0, .ref 0), (1, .int a0), (2, .int a1)] [] (go_mk tx μ) (go_Z w Q) := by
  unfold fX11_springs at h
  refine go_iload_n dX11_springs_0 1 rfl ?_
  refine go_if_lt 22 dX11_springs_1 (by decide) (fun hc => ?_) (fun hc => ?_)
  · have h := go_ifp hc h
    refine go_iconst (v := (-1)) dX11_springs_22 (by decide) ?_
    cases h
    exact go_iret dX11_springs_23 rfl hK
  · have h := go_ifn hc h
    refine go_iload_n dX11_springs_4 1 rfl ?_
    refine go_sipush (v := 9999) dX11_springs_5 (by decide) ?_
    refine go_icmp_gt 22 dX11_springs_8 (by decide) (fun hc => ?_) (fun hc => ?_)
    · have h := go_ifp hc h
      refine go_iconst (v := (-1)) dX11_springs_22 (by decide) ?_
      cases h
      exact go_iret dX11_springs_23 rfl hK
    · have h := go_ifn hc h
      refine go_iload_n dX11_springs_11 2 rfl ?_
      refine go_iconst (v := 1) dX11_springs_12 (by decide) ?_
      refine go_icmp_lt 22 dX11_springs_13 (by decide) (fun hc => ?_) (fun hc => ?_)
      · have h := go_ifp hc h
        refine go_iconst (v := (-1)) dX11_springs_22 (by decide) ?_
        cases h
        exact go_iret dX11_springs_23 rfl hK
      · have h := go_ifn hc h
        refine go_iload_n dX11_springs_16 2 rfl ?_
        refine go_bipush (v := 40) dX11_springs_17 (by decide) ?_
        refine go_icmp_le 24 dX11_springs_19 (by decide) (fun hc => ?_) (fun hc => ?_)
        · have h := go_ifp hc h
          refine go_aload_n dX11_springs_24 0 rfl ?_
          refine pp_getR dX11_springs_25 ff_X11_10 (Or.inl ⟨_, rfl⟩) sh_0 rf_0_0 ?_
          refine pp_getR dX11_springs_28 ff_X11_175 (Or.inl ⟨_, rfl⟩) go_isV_1.1 rf_1_11 ?_
          refine go_aload_n dX11_springs_31 0 rfl ?_
          refine pp_getR dX11_springs_32 ff_X11_20 (Or.inl ⟨_, rfl⟩) sh_0 rf_0_1 ?_
          obtain ⟨q1, hq1, h⟩ := go_bind h
          refine pp_callV (as := [.ref 12]) (st := []) (rv := none) (μ1 := q1) (st1 := []) dX11_springs_35 ll_X11_179 go_isS_17.1 (by decide) rfl (ctX7_keep go_isS_17 go_isW_12 hq1) rfl (Nat.le_of_ble_eq_true rfl) (Nat.le_of_ble_eq_true rfl) (go_Z_up w _) rfl rfl ?_
          refine go_aload_n dX11_springs_38 0 rfl ?_
          refine pp_getR dX11_springs_39 ff_X11_20 (Or.inl ⟨_, rfl⟩) sh_0 rf_0_1 ?_
          refine go_iload_n dX11_springs_42 1 rfl ?_
          refine go_iconst (v := 2) dX11_springs_43 (by decide) ?_
          refine go_imul dX11_springs_44 ?_
          refine go_sipush (v := 307) dX11_springs_45 (by decide) ?_
          refine go_iadd dX11_springs_48 ?_
          obtain ⟨μ2, hμ2, h⟩ := go_let_e h
          refine pp_putI dX11_springs_49 ff_X11_224 (Or.inl rfl) go_isW_12.1 hμ2 ?_
          refine go_iconst (v := 0) dX11_springs_52 (by decide) ?_
          refine go_istore_n dX11_springs_53 (by decide) rfl ?_
          show Go w 7 0 0 mtX11_springs 54 [(3, .int 0), (0, .ref 0), (1, .int a0), (2, .int a1)] [] (go_mk tx μ2) (go_Z w Q)
          obtain ⟨ρ5, hρ5, h⟩ := go_bind h
          refine go_pick [1, 3, 0] rfl ?_
          refine go_lp (G := ggX11_springs_54 w tx Q a0 a1 ) (E := eeX11_springs_54 w tx Q a0 a1 ) (fun s out h hK => lqX11_springs_54 w tx Q a0 a1   s.1 s.2 out h hK) go_fuel (0, μ2) ρ5 hρ5 ?_
          cases h
          exact hK
        · have h := go_ifn hc h
          refine go_iconst (v := (-1)) dX11_springs_22 (by decide) ?_
          cases h
          exact go_iret dX11_springs_23 rfl hK
theorem ctX11_springs {w : go_Wd} {tx : Nat} {μ : PM} {a0 : Int32} {a1 : Int32} {r : Int32} {μ1 : PM}  (h : fX11_springs μ a0 a1 = some (r, μ1)) : Ct w 7 0 0 mtX11_springs [.ref 0, .int a0, .int a1] (go_mk tx μ) (fun r' M' => r' = some (.int r) ∧ M' = go_mk tx μ1) :=
  go_entry rfl (by decide) (Nat.le_of_ble_eq_true rfl) (cmX11_springs w tx _ μ a0 a1 _ h ⟨rfl, rfl⟩)
def fX11_undo (μ : PM)  : Option (Int32 × PM) :=
  (fX9_takeBack μ 1).bind fun q1 => (if q1.1 = 0 then some (((-1), q1.2)) else some (((q1.2.1 17 2), q1.2)))
set_option maxRecDepth 20000 in
set_option maxHeartbeats 4000000 in
theorem cmX11_undo (w : go_Wd) (tx : Nat) (Q : Option Value → go_M → Prop) (μ : PM)  (out : Int32 × PM) (h : fX11_undo μ = some out) (hK : Q (some (.int out.1)) (go_mk tx out.2)) : Go w 3 0 0 mtX11_undo 0 [(0, .ref 0)] [] (go_mk tx μ) (go_Z w Q) := by
  unfold fX11_undo at h
  refine go_aload_n dX11_undo_0 0 rfl ?_
  refine pp_getR dX11_undo_1 ff_X11_10 (Or.inl ⟨_, rfl⟩) sh_0 rf_0_0 ?_
  obtain ⟨q1, hq1, h⟩ := go_bind h
  refine pp_callV (as := []) (st := []) (rv := (some (.int q1.1))) (μ1 := q1.2) (st1 := [.int q1.1]) dX11_undo_4 ll_X11_233 go_isV_1.1 (by decide) rfl (ctX9_takeBack go_isV_1 hq1) rfl (Nat.le_of_ble_eq_true rfl) (Nat.le_of_ble_eq_true rfl) (go_Z_up w _) rfl rfl ?_
  refine go_if_eq 23 dX11_undo_7 (by decide) (fun hc => ?_) (fun hc => ?_)
  · have h := go_ifp hc h
    refine go_iconst (v := (-1)) dX11_undo_23 (by decide) ?_
    cases h
    exact go_iret dX11_undo_24 rfl hK
  · have h := go_ifn hc h
    refine go_aload_n dX11_undo_10 0 rfl ?_
    refine pp_getR dX11_undo_11 ff_X11_10 (Or.inl ⟨_, rfl⟩) sh_0 rf_0_0 ?_
    refine pp_getR dX11_undo_14 ff_X11_175 (Or.inl ⟨_, rfl⟩) go_isV_1.1 rf_1_11 ?_
    refine pp_getI dX11_undo_17 ff_X11_237 (by decide) go_isS_17.1 ?_
    refine go_goto 24 dX11_undo_20 (by decide) ?_
    cases h
    exact go_iret dX11_undo_24 rfl hK
theorem ctX11_undo {w : go_Wd} {tx : Nat} {μ : PM}  {r : Int32} {μ1 : PM}  (h : fX11_undo μ = some (r, μ1)) : Ct w 3 0 0 mtX11_undo [.ref 0] (go_mk tx μ) (fun r' M' => r' = some (.int r) ∧ M' = go_mk tx μ1) :=
  go_entry rfl (by decide) (Nat.le_of_ble_eq_true rfl) (cmX11_undo w tx _ μ  _ h ⟨rfl, rfl⟩)
def fX11_isName (μ : PM) (a0 : Int32) : Int32 :=
  (if a0 < 0 then 0 else (if (μ.1 12 5) ≤ a0 then 0 else (if 6 ≤ a0 then 0 else 1)))
set_option maxRecDepth 20000 in
set_option maxHeartbeats 4000000 in
theorem cmX11_isName (w : go_Wd) (tx : Nat) (Q : Option Value → go_M → Prop) (μ : PM) (a0 : Int32) (out : Int32) (h : fX11_isName μ a0 = out) (hK : Q (some (.int out)) (go_mk tx μ)) : Go w 0 0 0 mtX11_isName 0 [(0, .ref 0), (1, .int a0)] [] (go_mk tx μ) (go_Z w Q) := by
  unfold fX11_isName at h
  refine go_iload_n dX11_isName_0 1 rfl ?_
  refine go_if_lt 25 dX11_isName_1 (by decide) (fun hc => ?_) (fun hc => ?_)
  · have h := go_ifp hc h
    refine go_iconst (v := 0) dX11_isName_25 (by decide) ?_
    subst h
    exact go_zret dX11_isName_26 rfl (Or.inl rfl) hK
  · have h := go_ifn hc h
    refine go_iload_n dX11_isName_4 1 rfl ?_
    refine go_aload_n dX11_isName_5 0 rfl ?_
    refine pp_getR dX11_isName_6 ff_X11_20 (Or.inl ⟨_, rfl⟩) sh_0 rf_0_1 ?_
    refine pp_getI dX11_isName_9 ff_X11_106 (by decide) go_isW_12.1 ?_
    refine go_icmp_ge 25 dX11_isName_12 (by decide) (fun hc => ?_) (fun hc => ?_)
    · have h := go_ifp hc h
      refine go_iconst (v := 0) dX11_isName_25 (by decide) ?_
      subst h
      exact go_zret dX11_isName_26 rfl (Or.inl rfl) hK
    · have h := go_ifn hc h
      refine go_iload_n dX11_isName_15 1 rfl ?_
      refine go_bipush (v := 6) dX11_isName_16 (by decide) ?_
      refine go_icmp_ge 25 dX11_isName_18 (by decide) (fun hc => ?_) (fun hc => ?_)
      · have h := go_ifp hc h
        refine go_iconst (v := 0) dX11_isName_25 (by decide) ?_
        subst h
        exact go_zret dX11_isName_26 rfl (Or.inl rfl) hK
      · have h := go_ifn hc h
        refine go_iconst (v := 1) dX11_isName_21 (by decide) ?_
        refine go_goto 26 dX11_isName_22 (by decide) ?_
        subst h
        exact go_zret dX11_isName_26 rfl (Or.inr rfl) hK
theorem ctX11_isName {w : go_Wd} {tx : Nat} {μ : PM} {a0 : Int32} {r : Int32}  (h : fX11_isName μ a0 = r) : Ct w 0 0 0 mtX11_isName [.ref 0, .int a0] (go_mk tx μ) (fun r' M' => r' = some (.int r) ∧ M' = go_mk tx μ) :=
  go_entry rfl (by decide) (Nat.le_of_ble_eq_true rfl) (cmX11_isName w tx _ μ a0 _ h ⟨rfl, rfl⟩)
theorem bzX11_isName {μ : PM} {a0 : Int32} {r : Int32} (h : fX11_isName μ a0 = r) : r = 0 ∨ r = 1 := by
  subst h
  show go_bi _
  unfold fX11_isName
  repeat' first | exact bi_0 | exact bi_1 | with_reducible apply bi_ite
def lbX11_leftOf_9 (a0 : Int32) (a1 : Int32)  (v2 : Int32) (v3 : Int32) : Option ((Int32 × Int32) ⊕ (Int32)) :=
  (if v3 ≤ 0 then some (.inr (v2)) else some (.inl ((v2 / 10), (v3 + (-1)))))
def fX11_leftOf (a0 : Int32) (a1 : Int32) : Option (Int32) :=
  (fX11_countSounds a0).bind fun q1 => ((lp (fun s => lbX11_leftOf_9 a0 a1 s.1 s.2) go_fuel (a0, (q1 - a1))).bind fun ρ2 => some ρ2)
def ggX11_leftOf_9 (w : go_Wd) (tx : Nat) (Q : Option Value → go_M → Prop) (μ : PM) (a0 : Int32) (a1 : Int32)  (s : Int32 × Int32) : Prop := Go w 1 0 0 mtX11_leftOf 9 [(2, .int s.1), (3, .int s.2)] [] (go_mk tx μ) (go_Z w Q)
def eeX11_leftOf_9 (w : go_Wd) (tx : Nat) (Q : Option Value → go_M → Prop) (μ : PM) (a0 : Int32) (a1 : Int32)  (y : Int32) : Prop := Q (some (.int y)) (go_mk tx μ)
set_option maxRecDepth 20000 in
set_option maxHeartbeats 4000000 in
theorem lqX11_leftOf_9 (w : go_Wd) (tx : Nat) (Q : Option Value → go_M → Prop) (μ : PM) (a0 : Int32) (a1 : Int32)   (v2 : Int32) (v3 : Int32) (out : (Int32 × Int32) ⊕ (Int32)) (h : lbX11_leftOf_9 a0 a1  v2 v3 = some out) (hK : go_out (ggX11_leftOf_9 w tx Q μ a0 a1 ) (eeX11_leftOf_9 w tx Q μ a0 a1 ) out) : ggX11_leftOf_9 w tx Q μ a0 a1  (v2, v3) := by
  unfold lbX11_leftOf_9 at h
  show Go w 1 0 0 mtX11_leftOf 9 [(2, .int v2), (3, .int v3)] [] (go_mk tx μ) (go_Z w Q)
  refine go_iload_n dX11_leftOf_9 1 rfl ?_
  refine go_if_le 24 dX11_leftOf_10 (by decide) (fun hc => ?_) (fun hc => ?_)
  · have h := go_ifp hc h
    refine go_iload_n dX11_leftOf_24 0 rfl ?_
    cases h
    exact go_iret dX11_leftOf_25 rfl hK
  · have h := go_ifn hc h
    refine go_iload_n dX11_leftOf_13 0 rfl ?_
    refine go_bipush (v := 10) dX11_leftOf_14 (by decide) ?_
    refine go_idiv dX11_leftOf_16 (by decide) ?_
    refine go_istore_n dX11_leftOf_17 (by decide) rfl ?_
    show Go w 1 0 0 mtX11_leftOf 18 [(2, .int (v2 / 10)), (3, .int v3)] [] (go_mk tx μ) (go_Z w Q)
    refine go_iinc (v := (v3 + (-1))) dX11_leftOf_18 1 rfl rfl (by decide) rfl ?_
    show Go w 1 0 0 mtX11_leftOf 21 [(3, .int (v3 + (-1))), (2, .int (v2 / 10))] [] (go_mk tx μ) (go_Z w Q)
    refine go_goto 9 dX11_leftOf_21 (by decide) ?_
    cases h
    have hK : Go w 1 0 0 mtX11_leftOf 9 [(2, .int (v2 / 10)), (3, .int (v3 + (-1)))] [] (go_mk tx μ) (go_Z w Q) := hK
    exact go_pick [1, 0] rfl hK
set_option maxRecDepth 20000 in
set_option maxHeartbeats 4000000 in
theorem cmX11_leftOf (w : go_Wd) (tx : Nat) (Q : Option Value → go_M → Prop) (μ : PM) (a0 : Int32) (a1 : Int32) (out : Int32) (h : fX11_leftOf a0 a1 = some out) (hK : Q (some (.int out)) (go_mk tx μ)) : Go w 1 0 0 mtX11_leftOf 0 [(0, .int a0), (1, .int a1)] [] (go_mk tx μ) (go_Z w Q) := by
  unfold fX11_leftOf at h
  refine go_iload_n dX11_leftOf_0 0 rfl ?_
  refine go_istore_n dX11_leftOf_1 (by decide) rfl ?_
  show Go w 1 0 0 mtX11_leftOf 2 [(2, .int a0), (0, .int a0), (1, .int a1)] [] (go_mk tx μ) (go_Z w Q)
  refine go_iload_n dX11_leftOf_2 1 rfl ?_
  obtain ⟨q1, hq1, h⟩ := go_bind h
  refine pp_callS (as := [.int a0]) (st := []) (rv := (some (.int q1))) (μ1 := μ) (st1 := [.int q1]) dX11_leftOf_3 ll_X11_102 (ctX11_countSounds  hq1) rfl (Nat.le_of_ble_eq_true rfl) (Nat.le_of_ble_eq_true rfl) (go_Z_up w _) rfl rfl ?_
  refine go_iload_n dX11_leftOf_6 2 rfl ?_
  refine go_isub dX11_leftOf_7 ?_
  refine go_istore_n dX11_leftOf_8 (by decide) rfl ?_
  show Go w 1 0 0 mtX11_leftOf 9 [(3, .int (q1 - a1)), (2, .int a0), (0, .int a0), (1, .int a1)] [] (go_mk tx μ) (go_Z w Q)
  obtain ⟨ρ2, hρ2, h⟩ := go_bind h
  refine go_pick [1, 0] rfl ?_
  refine go_lp (G := ggX11_leftOf_9 w tx Q μ a0 a1 ) (E := eeX11_leftOf_9 w tx Q μ a0 a1 ) (fun s out h hK => lqX11_leftOf_9 w tx Q μ a0 a1   s.1 s.2 out h hK) go_fuel (a0, (q1 - a1)) ρ2 hρ2 ?_
  cases h
  exact hK
theorem ctX11_leftOf {w : go_Wd} {tx : Nat} {μ : PM} {a0 : Int32} {a1 : Int32} {r : Int32}  (h : fX11_leftOf a0 a1 = some r) : Ct w 1 0 0 mtX11_leftOf [.int a0, .int a1] (go_mk tx μ) (fun r' M' => r' = some (.int r) ∧ M' = go_mk tx μ) :=
  go_entry rfl (by decide) (Nat.le_of_ble_eq_true rfl) (cmX11_leftOf w tx _ μ a0 a1 _ h ⟨rfl, rfl⟩)
def fX11_of (μ : PM) (a0 : Int32) (a1 : Int32) : Option (Int32) :=
  (if (fX11_isName μ a0) = 0 then some ((-2)) else (if a1 = 0 then go_chk a0 6 <| some ((μ.1 2 a0.toNatClampNeg)) else (if a1 = 1 then go_chk a0 6 <| some ((μ.1 3 a0.toNatClampNeg)) else (if a1 = 2 then go_chk a0 6 <| some ((μ.1 14 a0.toNatClampNeg)) else (if a1 = 3 then go_chk a0 6 <| some ((μ.1 13 a0.toNatClampNeg)) else (if a1 = 4 then go_chk a0 6 <| go_chk a0 6 <| (fX11_leftOf (μ.1 2 a0.toNatClampNeg) (μ.1 14 a0.toNatClampNeg)).bind fun q12 => some (q12) else some ((-2))))))))
set_option maxRecDepth 20000 in
set_option maxHeartbeats 4000000 in
theorem cmX11_of (w : go_Wd) (tx : Nat) (Q : Option Value → go_M → Prop) (μ : PM) (a0 : Int32) (a1 : Int32) (out : Int32) (h : fX11_of μ a0 a1 = some out) (hK : Q (some (.int out)) (go_mk tx μ)) : Go w 2 0 0 mtX11_of 0 [(0, .ref 0), (1, .int a0), (2, .int a1)] [] (go_mk tx μ) (go_Z w Q) := by
  unfold fX11_of at h
  refine go_aload_n dX11_of_0 0 rfl ?_
  refine go_iload_n dX11_of_1 1 rfl ?_
  refine pp_callV (as := [.int a0]) (st := []) (rv := (some (.int (fX11_isName μ a0)))) (μ1 := μ) (st1 := [.int (fX11_isName μ a0)]) dX11_of_2 ll_X11_240 sh_0 (by decide) rfl (ctX11_isName  rfl) rfl (Nat.le_of_ble_eq_true rfl) (Nat.le_of_ble_eq_true rfl) (go_Z_up w _) rfl rfl ?_
  refine go_if_ne 11 dX11_of_5 (by decide) (fun hc => ?_) (fun hc => ?_)
  · have h := go_ifn hc h
    refine go_iload_n dX11_of_11 2 rfl ?_
    by_cases hc1 : a1 = 0
    · have h := go_ifp hc1 h
      refine go_tabIn (off := 36) 48 dX11_of_12 0 hc1 (by decide) (by decide) (by decide) (by decide) ?_
      refine go_aload_n dX11_of_48 0 rfl ?_
      refine pp_getR dX11_of_49 ff_X11_10 (Or.inl ⟨_, rfl⟩) sh_0 rf_0_0 ?_
      refine pp_getR dX11_of_52 ff_X11_109 (Or.inr ⟨_, rfl⟩) go_isV_1.1 rf_1_0 ?_
      refine go_iload_n dX11_of_55 1 rfl ?_
      obtain ⟨hz2, h⟩ := go_chk_e h
      refine pp_ild dX11_of_56 sh_2 hz2 ?_
      cases h
      exact go_iret dX11_of_57 rfl hK
    · have h := go_ifn hc1 h
      by_cases hc3 : a1 = 1
      · have h := go_ifp hc3 h
        refine go_tabIn (off := 46) 58 dX11_of_12 1 hc3 (by decide) (by decide) (by decide) (by decide) ?_
        refine go_aload_n dX11_of_58 0 rfl ?_
        refine pp_getR dX11_of_59 ff_X11_10 (Or.inl ⟨_, rfl⟩) sh_0 rf_0_0 ?_
        refine pp_getR dX11_of_62 ff_X11_112 (Or.inr ⟨_, rfl⟩) go_isV_1.1 rf_1_1 ?_
        refine go_iload_n dX11_of_65 1 rfl ?_
        obtain ⟨hz4, h⟩ := go_chk_e h
        refine pp_ild dX11_of_66 sh_3 hz4 ?_
        cases h
        exact go_iret dX11_of_67 rfl hK
      · have h := go_ifn hc3 h
        by_cases hc5 : a1 = 2
        · have h := go_ifp hc5 h
          refine go_tabIn (off := 56) 68 dX11_of_12 2 hc5 (by decide) (by decide) (by decide) (by decide) ?_
          refine go_aload_n dX11_of_68 0 rfl ?_
          refine pp_getR dX11_of_69 ff_X11_20 (Or.inl ⟨_, rfl⟩) sh_0 rf_0_1 ?_
          refine pp_getR dX11_of_72 ff_X11_118 (Or.inr ⟨_, rfl⟩) go_isW_12.1 rf_12_1 ?_
          refine go_iload_n dX11_of_75 1 rfl ?_
          obtain ⟨hz6, h⟩ := go_chk_e h
          refine pp_ild dX11_of_76 sh_14 hz6 ?_
          cases h
          exact go_iret dX11_of_77 rfl hK
        · have h := go_ifn hc5 h
          by_cases hc7 : a1 = 3
          · have h := go_ifp hc7 h
            refine go_tabIn (off := 66) 78 dX11_of_12 3 hc7 (by decide) (by decide) (by decide) (by decide) ?_
            refine go_aload_n dX11_of_78 0 rfl ?_
            refine pp_getR dX11_of_79 ff_X11_20 (Or.inl ⟨_, rfl⟩) sh_0 rf_0_1 ?_
            refine pp_getR dX11_of_82 ff_X11_115 (Or.inr ⟨_, rfl⟩) go_isW_12.1 rf_12_0 ?_
            refine go_iload_n dX11_of_85 1 rfl ?_
            obtain ⟨hz8, h⟩ := go_chk_e h
            refine pp_ild dX11_of_86 sh_13 hz8 ?_
            cases h
            exact go_iret dX11_of_87 rfl hK
          · have h := go_ifn hc7 h
            by_cases hc9 : a1 = 4
            · have h := go_ifp hc9 h
              refine go_tabIn (off := 76) 88 dX11_of_12 4 hc9 (by decide) (by decide) (by decide) (by decide) ?_
              refine go_aload_n dX11_of_88 0 rfl ?_
              refine pp_getR dX11_of_89 ff_X11_10 (Or.inl ⟨_, rfl⟩) sh_0 rf_0_0 ?_
              refine pp_getR dX11_of_92 ff_X11_109 (Or.inr ⟨_, rfl⟩) go_isV_1.1 rf_1_0 ?_
              refine go_iload_n dX11_of_95 1 rfl ?_
              obtain ⟨hz10, h⟩ := go_chk_e h
              refine pp_ild dX11_of_96 sh_2 hz10 ?_
              refine go_aload_n dX11_of_97 0 rfl ?_
              refine pp_getR dX11_of_98 ff_X11_20 (Or.inl ⟨_, rfl⟩) sh_0 rf_0_1 ?_
              refine pp_getR dX11_of_101 ff_X11_118 (Or.inr ⟨_, rfl⟩) go_isW_12.1 rf_12_1 ?_
              refine go_iload_n dX11_of_104 1 rfl ?_
              obtain ⟨hz11, h⟩ := go_chk_e h
              refine pp_ild dX11_of_105 sh_14 hz11 ?_
              obtain ⟨q12, hq12, h⟩ := go_bind h
              refine pp_callS (as := [.int (μ.1 2 a0.toNatClampNeg), .int (μ.1 14 a0.toNatClampNeg)]) (st := []) (rv := (some (.int q12))) (μ1 := μ) (st1 := [.int q12]) dX11_of_106 ll_X11_243 (ctX11_leftOf  hq12) rfl (Nat.le_of_ble_eq_true rfl) (Nat.le_of_ble_eq_true rfl) (go_Z_up w _) rfl rfl ?_
              cases h
              exact go_iret dX11_of_109 rfl hK
            · have h := go_ifn hc9 h
              refine go_tabOut 110 dX11_of_12 (by have g0 := go_ne_i (n := 0) hc1 (by decide); have g1 := go_ne_i (n := 1) hc3 (by decide); have g2 := go_ne_i (n := 2) hc5 (by decide); have g3 := go_ne_i (n := 3) hc7 (by decide); have g4 := go_ne_i (n := 4) hc9 (by decide); omega) (by decide) ?_
              refine go_bipush (v := (-2)) dX11_of_110 (by decide) ?_
              cases h
              exact go_iret dX11_of_112 rfl hK
  · have h := go_ifp hc h
    refine go_bipush (v := (-2)) dX11_of_8 (by decide) ?_
    cases h
    exact go_iret dX11_of_10 rfl hK
theorem ctX11_of {w : go_Wd} {tx : Nat} {μ : PM} {a0 : Int32} {a1 : Int32} {r : Int32}  (h : fX11_of μ a0 a1 = some r) : Ct w 2 0 0 mtX11_of [.ref 0, .int a0, .int a1] (go_mk tx μ) (fun r' M' => r' = some (.int r) ∧ M' = go_mk tx μ) :=
  go_entry rfl (by decide) (Nat.le_of_ble_eq_true rfl) (cmX11_of w tx _ μ a0 a1 _ h ⟨rfl, rfl⟩)
def fX11_ofFamily (μ : PM) (a0 : Int32) (a1 : Int32) : Option (Int32) :=
  (if (fX11_isFamily μ a0) = 0 then some ((-1)) else (if a1 = 0 then go_chk a0 5 <| some ((μ.1 4 a0.toNatClampNeg)) else (if a1 = 1 then go_chk a0 5 <| some ((μ.1 15 a0.toNatClampNeg)) else (if a1 = 2 then (fX10_namesIn μ 12 (20 + a0)).bind fun q6 => some (q6) else some ((-1))))))
set_option maxRecDepth 20000 in
set_option maxHeartbeats 4000000 in
theorem cmX11_ofFamily (w : go_Wd) (tx : Nat) (Q : Option Value → go_M → Prop) (μ : PM) (a0 : Int32) (a1 : Int32) (out : Int32) (h : fX11_ofFamily μ a0 a1 = some out) (hK : Q (some (.int out)) (go_mk tx μ)) : Go w 1 0 0 mtX11_ofFamily 0 [(0, .ref 0), (1, .int a0), (2, .int a1)] [] (go_mk tx μ) (go_Z w Q) := by
  unfold fX11_ofFamily at h
  refine go_aload_n dX11_ofFamily_0 0 rfl ?_
  refine go_iload_n dX11_ofFamily_1 1 rfl ?_
  refine pp_callV (as := [.int a0]) (st := []) (rv := (some (.int (fX11_isFamily μ a0)))) (μ1 := μ) (st1 := [.int (fX11_isFamily μ a0)]) dX11_ofFamily_2 ll_X11_192 sh_0 (by decide) rfl (ctX11_isFamily  rfl) rfl (Nat.le_of_ble_eq_true rfl) (Nat.le_of_ble_eq_true rfl) (go_Z_up w _) rfl rfl ?_
  refine go_if_ne 10 dX11_ofFamily_5 (by decide) (fun hc => ?_) (fun hc => ?_)
  · have h := go_ifn hc h
    refine go_iload_n dX11_ofFamily_10 2 rfl ?_
    by_cases hc1 : a1 = 0
    · have h := go_ifp hc1 h
      refine go_tabIn (off := 25) 36 dX11_ofFamily_11 0 hc1 (by decide) (by decide) (by decide) (by decide) ?_
      refine go_aload_n dX11_ofFamily_36 0 rfl ?_
      refine pp_getR dX11_ofFamily_37 ff_X11_10 (Or.inl ⟨_, rfl⟩) sh_0 rf_0_0 ?_
      refine pp_getR dX11_ofFamily_40 ff_X11_128 (Or.inr ⟨_, rfl⟩) go_isV_1.1 rf_1_2 ?_
      refine go_iload_n dX11_ofFamily_43 1 rfl ?_
      obtain ⟨hz2, h⟩ := go_chk_e h
      refine pp_ild dX11_ofFamily_44 sh_4 hz2 ?_
      cases h
      exact go_iret dX11_ofFamily_45 rfl hK
    · have h := go_ifn hc1 h
      by_cases hc3 : a1 = 1
      · have h := go_ifp hc3 h
        refine go_tabIn (off := 35) 46 dX11_ofFamily_11 1 hc3 (by decide) (by decide) (by decide) (by decide) ?_
        refine go_aload_n dX11_ofFamily_46 0 rfl ?_
        refine pp_getR dX11_ofFamily_47 ff_X11_20 (Or.inl ⟨_, rfl⟩) sh_0 rf_0_1 ?_
        refine pp_getR dX11_ofFamily_50 ff_X11_134 (Or.inr ⟨_, rfl⟩) go_isW_12.1 rf_12_2 ?_
        refine go_iload_n dX11_ofFamily_53 1 rfl ?_
        obtain ⟨hz4, h⟩ := go_chk_e h
        refine pp_ild dX11_ofFamily_54 sh_15 hz4 ?_
        cases h
        exact go_iret dX11_ofFamily_55 rfl hK
      · have h := go_ifn hc3 h
        by_cases hc5 : a1 = 2
        · have h := go_ifp hc5 h
          refine go_tabIn (off := 45) 56 dX11_ofFamily_11 2 hc5 (by decide) (by decide) (by decide) (by decide) ?_
          refine go_aload_n dX11_ofFamily_56 0 rfl ?_
          refine pp_getR dX11_ofFamily_57 ff_X11_20 (Or.inl ⟨_, rfl⟩) sh_0 rf_0_1 ?_
          refine go_bipush (v := 20) dX11_ofFamily_60 (by decide) ?_
          refine go_iload_n dX11_ofFamily_62 1 rfl ?_
          refine go_iadd dX11_ofFamily_63 ?_
          obtain ⟨q6, hq6, h⟩ := go_bind h
          refine pp_callV (as := [.int (20 + a0)]) (st := []) (rv := (some (.int q6))) (μ1 := μ) (st1 := [.int q6]) dX11_ofFamily_64 ll_X11_247 go_isW_12.1 (by decide) rfl (ctX10_namesIn go_isW_12 hq6) rfl (Nat.le_of_ble_eq_true rfl) (Nat.le_of_ble_eq_true rfl) (go_Z_up w _) rfl rfl ?_
          cases h
          exact go_iret dX11_ofFamily_67 rfl hK
        · have h := go_ifn hc5 h
          refine go_tabOut 68 dX11_ofFamily_11 (by have g0 := go_ne_i (n := 0) hc1 (by decide); have g1 := go_ne_i (n := 1) hc3 (by decide); have g2 := go_ne_i (n := 2) hc5 (by decide); omega) (by decide) ?_
          refine go_iconst (v := (-1)) dX11_ofFamily_68 (by decide) ?_
          cases h
          exact go_iret dX11_ofFamily_69 rfl hK
  · have h := go_ifp hc h
    refine go_iconst (v := (-1)) dX11_ofFamily_8 (by decide) ?_
    cases h
    exact go_iret dX11_ofFamily_9 rfl hK
theorem ctX11_ofFamily {w : go_Wd} {tx : Nat} {μ : PM} {a0 : Int32} {a1 : Int32} {r : Int32}  (h : fX11_ofFamily μ a0 a1 = some r) : Ct w 1 0 0 mtX11_ofFamily [.ref 0, .int a0, .int a1] (go_mk tx μ) (fun r' M' => r' = some (.int r) ∧ M' = go_mk tx μ) :=
  go_entry rfl (by decide) (Nat.le_of_ble_eq_true rfl) (cmX11_ofFamily w tx _ μ a0 a1 _ h ⟨rfl, rfl⟩)
def fX11_law (μ : PM) (a0 : Int32) (a1 : Int32) (a2 : Int32) : Option (Int32 × PM) :=
  (if (fX11_isName μ a0) = 0 then some (((-100), μ)) else (fX11_findText μ (μ.1 1 14)).bind fun q1 => (fX10_cellOf μ 12 a0).bind fun q2 => (if a2 = 0 then (fX2_askMelts μ q1 12 a0).bind fun q5 => some ((q5.1, q5.2)) else (if a2 = 1 then (fX2_askBreaks μ q1 12 a0 q2).bind fun q4 => some ((q4.1, q4.2)) else (if a2 = 2 then (if (fX11_isFamily μ a1) = 0 then some (((-100), μ)) else (fX2_askClaims μ q1 12 a0 q2 a1).bind fun q3 => some ((q3.1, q3.2))) else some (((-100), μ))))))
set_option maxRecDepth 20000 in
set_option maxHeartbeats 4000000 in
theorem cmX11_law (w : go_Wd) (tx : Nat) (Q : Option Value → go_M → Prop) (μ : PM) (a0 : Int32) (a1 : Int32) (a2 : Int32) (out : Int32 × PM) (h : fX11_law μ a0 a1 a2 = some out) (hK : Q (some (.int out.1)) (go_mk tx out.2)) : Go w 4 0 0 mtX11_law 0 [(0, .ref 0), (1, .int a0), (2, .int a1), (3, .int a2)] [] (go_mk tx μ) (go_Z w Q) := by
  unfold fX11_law at h
  refine go_aload_n dX11_law_0 0 rfl ?_
  refine go_iload_n dX11_law_1 1 rfl ?_
  refine pp_callV (as := [.int a0]) (st := []) (rv := (some (.int (fX11_isName μ a0)))) (μ1 := μ) (st1 := [.int (fX11_isName μ a0)]) dX11_law_2 ll_X11_240 sh_0 (by decide) rfl (ctX11_isName  rfl) rfl (Nat.le_of_ble_eq_true rfl) (Nat.le_of_ble_eq_true rfl) (go_Z_up w _) rfl rfl ?_
  refine go_if_ne 11 dX11_law_5 (by decide) (fun hc => ?_) (fun hc => ?_)
  · have h := go_ifn hc h
    refine go_aload_n dX11_law_11 0 rfl ?_
    refine go_aload_n dX11_law_12 0 rfl ?_
    refine pp_getR dX11_law_13 ff_X11_10 (Or.inl ⟨_, rfl⟩) sh_0 rf_0_0 ?_
    refine pp_getI dX11_law_16 ff_X11_169 (by decide) go_isV_1.1 ?_
    obtain ⟨q1, hq1, h⟩ := go_bind h
    refine pp_callV (as := [.int (μ.1 1 14)]) (st := []) (rv := (some (go_on q1))) (μ1 := μ) (st1 := [go_on q1]) dX11_law_19 ll_X11_204 sh_0 (by decide) rfl (ctX11_findText  hq1) rfl (Nat.le_of_ble_eq_true rfl) (Nat.le_of_ble_eq_true rfl) (go_Z_up w _) rfl rfl ?_
    refine go_astoreO2 dX11_law_22 (by decide) rfl ?_
    show Go w 4 0 0 mtX11_law 24 [(4, go_on q1), (0, .ref 0), (1, .int a0), (2, .int a1), (3, .int a2)] [] (go_mk tx μ) (go_Z w Q)
    refine go_aload_n dX11_law_24 1 rfl ?_
    refine pp_getR dX11_law_25 ff_X11_20 (Or.inl ⟨_, rfl⟩) sh_0 rf_0_1 ?_
    refine go_iload_n dX11_law_28 2 rfl ?_
    obtain ⟨q2, hq2, h⟩ := go_bind h
    refine pp_callV (as := [.int a0]) (st := []) (rv := (some (.int q2))) (μ1 := μ) (st1 := [.int q2]) dX11_law_29 ll_X11_250 go_isW_12.1 (by decide) rfl (ctX10_cellOf go_isW_12 hq2) rfl (Nat.le_of_ble_eq_true rfl) (Nat.le_of_ble_eq_true rfl) (go_Z_up w _) rfl rfl ?_
    refine go_istore (lv' := [(5, .int q2), (4, go_on q1), (0, .ref 0), (1, .int a0), (2, .int a1), (3, .int a2)]) dX11_law_32 (by decide) (by cases q1 <;> rfl) ?_
    show Go w 4 0 0 mtX11_law 34 [(5, .int q2), (4, go_on q1), (0, .ref 0), (1, .int a0), (2, .int a1), (3, .int a2)] [] (go_mk tx μ) (go_Z w Q)
    refine go_iload_n dX11_law_34 5 rfl ?_
    refine go_if_ne 53 dX11_law_35 (by decide) (fun hc => ?_) (fun hc => ?_)
    · have h := go_ifn hc h
      refine go_iload_n dX11_law_53 5 rfl ?_
      refine go_iconst (v := 1) dX11_law_54 (by decide) ?_
      refine go_icmp_ne 75 dX11_law_55 (by decide) (fun hc => ?_) (fun hc => ?_)
      · have h := go_ifn hc h
        refine go_iload_n dX11_law_75 5 rfl ?_
        refine go_iconst (v := 2) dX11_law_76 (by decide) ?_
        refine go_icmp_ne 106 dX11_law_77 (by decide) (fun hc => ?_) (fun hc => ?_)
        · have h := go_ifn hc h
          refine go_bipush (v := (-100)) dX11_law_106 (by decide) ?_
          cases h
          exact go_iret dX11_law_108 rfl hK
        · have h := go_ifp hc h
          refine go_aload_n dX11_law_80 2 rfl ?_
          refine go_iload_n dX11_law_81 4 rfl ?_
          refine pp_callV (as := [.int a1]) (st := []) (rv := (some (.int (fX11_isFamily μ a1)))) (μ1 := μ) (st1 := [.int (fX11_isFamily μ a1)]) dX11_law_82 ll_X11_192 sh_0 (by decide) rfl (ctX11_isFamily  rfl) rfl (Nat.le_of_ble_eq_true rfl) (Nat.le_of_ble_eq_true rfl) (go_Z_up w _) rfl rfl ?_
          refine go_if_eq 106 dX11_law_85 (by decide) (fun hc => ?_) (fun hc => ?_)
          · have h := go_ifp hc h
            refine go_bipush (v := (-100)) dX11_law_106 (by decide) ?_
            cases h
            exact go_iret dX11_law_108 rfl hK
          · have h := go_ifn hc h
            refine go_aload_n dX11_law_88 2 rfl ?_
            refine pp_getR dX11_law_89 ff_X11_55 (Or.inl ⟨_, rfl⟩) sh_0 rf_0_7 ?_
            refine go_aloadO2 dX11_law_92 1 rfl ?_
            refine go_aload_n dX11_law_94 2 rfl ?_
            refine pp_getR dX11_law_95 ff_X11_20 (Or.inl ⟨_, rfl⟩) sh_0 rf_0_1 ?_
            refine go_iload_n dX11_law_98 3 rfl ?_
            refine go_iload dX11_law_99 0 rfl ?_
            refine go_iload_n dX11_law_101 4 rfl ?_
            obtain ⟨q3, hq3, h⟩ := go_bind h
            refine pp_callV (as := [go_on q1, .ref 12, .int a0, .int q2, .int a1]) (st := []) (rv := (some (.int q3.1))) (μ1 := q3.2) (st1 := [.int q3.1]) dX11_law_102 ll_X11_261 sh_383 (by decide) rfl (ctX2_askClaims (opX11_findText  hq1) go_isW_12 hq3) rfl (Nat.le_of_ble_eq_true rfl) (Nat.le_of_ble_eq_true rfl) (go_Z_up w _) rfl rfl ?_
            cases h
            exact go_iret dX11_law_105 rfl hK
      · have h := go_ifp hc h
        refine go_aload_n dX11_law_58 2 rfl ?_
        refine pp_getR dX11_law_59 ff_X11_55 (Or.inl ⟨_, rfl⟩) sh_0 rf_0_7 ?_
        refine go_aloadO2 dX11_law_62 1 rfl ?_
        refine go_aload_n dX11_law_64 2 rfl ?_
        refine pp_getR dX11_law_65 ff_X11_20 (Or.inl ⟨_, rfl⟩) sh_0 rf_0_1 ?_
        refine go_iload_n dX11_law_68 3 rfl ?_
        refine go_iload dX11_law_69 0 rfl ?_
        obtain ⟨q4, hq4, h⟩ := go_bind h
        refine pp_callV (as := [go_on q1, .ref 12, .int a0, .int q2]) (st := []) (rv := (some (.int q4.1))) (μ1 := q4.2) (st1 := [.int q4.1]) dX11_law_71 ll_X11_257 sh_383 (by decide) rfl (ctX2_askBreaks (opX11_findText  hq1) go_isW_12 hq4) rfl (Nat.le_of_ble_eq_true rfl) (Nat.le_of_ble_eq_true rfl) (go_Z_up w _) rfl rfl ?_
        cases h
        exact go_iret dX11_law_74 rfl hK
    · have h := go_ifp hc h
      refine go_aload_n dX11_law_38 2 rfl ?_
      refine pp_getR dX11_law_39 ff_X11_55 (Or.inl ⟨_, rfl⟩) sh_0 rf_0_7 ?_
      refine go_aloadO2 dX11_law_42 1 rfl ?_
      refine go_aload_n dX11_law_44 2 rfl ?_
      refine pp_getR dX11_law_45 ff_X11_20 (Or.inl ⟨_, rfl⟩) sh_0 rf_0_1 ?_
      refine go_iload_n dX11_law_48 3 rfl ?_
      obtain ⟨q5, hq5, h⟩ := go_bind h
      refine pp_callV (as := [go_on q1, .ref 12, .int a0]) (st := []) (rv := (some (.int q5.1))) (μ1 := q5.2) (st1 := [.int q5.1]) dX11_law_49 ll_X11_253 sh_383 (by decide) rfl (ctX2_askMelts (opX11_findText  hq1) go_isW_12 hq5) rfl (Nat.le_of_ble_eq_true rfl) (Nat.le_of_ble_eq_true rfl) (go_Z_up w _) rfl rfl ?_
      cases h
      exact go_iret dX11_law_52 rfl hK
  · have h := go_ifp hc h
    refine go_bipush (v := (-100)) dX11_law_8 (by decide) ?_
    cases h
    exact go_iret dX11_law_10 rfl hK
theorem ctX11_law {w : go_Wd} {tx : Nat} {μ : PM} {a0 : Int32} {a1 : Int32} {a2 : Int32} {r : Int32} {μ1 : PM}  (h : fX11_law μ a0 a1 a2 = some (r, μ1)) : Ct w 4 0 0 mtX11_law [.ref 0, .int a0, .int a1, .int a2] (go_mk tx μ) (fun r' M' => r' = some (.int r) ∧ M' = go_mk tx μ1) :=
  go_entry rfl (by decide) (Nat.le_of_ble_eq_true rfl) (cmX11_law w tx _ μ a0 a1 a2 _ h ⟨rfl, rfl⟩)
def fX11_is (μ : PM) (a0 : Int32) : Int32 :=
  (if a0 = 0 then (μ.1 12 9) else (if a0 = 1 then (μ.1 12 10) else (if a0 = 2 then (μ.1 12 8) else (if a0 = 3 then (μ.1 12 7) else (if a0 = 4 then (μ.1 1 12) else (-2))))))
set_option maxRecDepth 20000 in
set_option maxHeartbeats 4000000 in
theorem cmX11_is (w : go_Wd) (tx : Nat) (Q : Option Value → go_M → Prop) (μ : PM) (a0 : Int32) (out : Int32) (h : fX11_is μ a0 = out) (hK : Q (some (.int out)) (go_mk tx μ)) : Go w 0 0 0 mtX11_is 0 [(0, .ref 0), (1, .int a0)] [] (go_mk tx μ) (go_Z w Q) := by
  unfold fX11_is at h
  refine go_iload_n dX11_is_0 1 rfl ?_
  by_cases hc1 : a0 = 0
  · have h := go_ifp hc1 h
    refine go_tabIn (off := 35) 36 dX11_is_1 0 hc1 (by decide) (by decide) (by decide) (by decide) ?_
    refine go_aload_n dX11_is_36 0 rfl ?_
    refine pp_getR dX11_is_37 ff_X11_20 (Or.inl ⟨_, rfl⟩) sh_0 rf_0_1 ?_
    refine pp_getI dX11_is_40 ff_X11_198 (by decide) go_isW_12.1 ?_
    subst h
    exact go_iret dX11_is_43 rfl hK
  · have h := go_ifn hc1 h
    by_cases hc2 : a0 = 1
    · have h := go_ifp hc2 h
      refine go_tabIn (off := 43) 44 dX11_is_1 1 hc2 (by decide) (by decide) (by decide) (by decide) ?_
      refine go_aload_n dX11_is_44 0 rfl ?_
      refine pp_getR dX11_is_45 ff_X11_20 (Or.inl ⟨_, rfl⟩) sh_0 rf_0_1 ?_
      refine pp_getI dX11_is_48 ff_X11_224 (by decide) go_isW_12.1 ?_
      subst h
      exact go_iret dX11_is_51 rfl hK
    · have h := go_ifn hc2 h
      by_cases hc3 : a0 = 2
      · have h := go_ifp hc3 h
        refine go_tabIn (off := 51) 52 dX11_is_1 2 hc3 (by decide) (by decide) (by decide) (by decide) ?_
        refine go_aload_n dX11_is_52 0 rfl ?_
        refine pp_getR dX11_is_53 ff_X11_20 (Or.inl ⟨_, rfl⟩) sh_0 rf_0_1 ?_
        refine pp_getI dX11_is_56 ff_X11_265 (by decide) go_isW_12.1 ?_
        subst h
        exact go_iret dX11_is_59 rfl hK
      · have h := go_ifn hc3 h
        by_cases hc4 : a0 = 3
        · have h := go_ifp hc4 h
          refine go_tabIn (off := 59) 60 dX11_is_1 3 hc4 (by decide) (by decide) (by decide) (by decide) ?_
          refine go_aload_n dX11_is_60 0 rfl ?_
          refine pp_getR dX11_is_61 ff_X11_20 (Or.inl ⟨_, rfl⟩) sh_0 rf_0_1 ?_
          refine pp_getI dX11_is_64 ff_X11_185 (by decide) go_isW_12.1 ?_
          subst h
          exact go_iret dX11_is_67 rfl hK
        · have h := go_ifn hc4 h
          by_cases hc5 : a0 = 4
          · have h := go_ifp hc5 h
            refine go_tabIn (off := 67) 68 dX11_is_1 4 hc5 (by decide) (by decide) (by decide) (by decide) ?_
            refine go_aload_n dX11_is_68 0 rfl ?_
            refine pp_getR dX11_is_69 ff_X11_10 (Or.inl ⟨_, rfl⟩) sh_0 rf_0_0 ?_
            refine pp_getI dX11_is_72 ff_X11_137 (by decide) go_isV_1.1 ?_
            subst h
            exact go_iret dX11_is_75 rfl hK
          · have h := go_ifn hc5 h
            refine go_tabOut 76 dX11_is_1 (by have g0 := go_ne_i (n := 0) hc1 (by decide); have g1 := go_ne_i (n := 1) hc2 (by decide); have g2 := go_ne_i (n := 2) hc3 (by decide); have g3 := go_ne_i (n := 3) hc4 (by decide); have g4 := go_ne_i (n := 4) hc5 (by decide); omega) (by decide) ?_
            refine go_bipush (v := (-2)) dX11_is_76 (by decide) ?_
            subst h
            exact go_iret dX11_is_78 rfl hK
theorem ctX11_is {w : go_Wd} {tx : Nat} {μ : PM} {a0 : Int32} {r : Int32}  (h : fX11_is μ a0 = r) : Ct w 0 0 0 mtX11_is [.ref 0, .int a0] (go_mk tx μ) (fun r' M' => r' = some (.int r) ∧ M' = go_mk tx μ) :=
  go_entry rfl (by decide) (Nat.le_of_ble_eq_true rfl) (cmX11_is w tx _ μ a0 _ h ⟨rfl, rfl⟩)
def fX11_book (μ : PM) (a0 : Int32) (a1 : Int32) : Option (Int32) :=
  (if a0 = (-1) then some ((μ.1 12 4)) else (if a0 < 0 then some ((-2)) else (if (μ.1 12 4) ≤ a0 then some ((-2)) else (if a0 < 30 then go_chk a0 30 <| go_let ((μ.1 16 a0.toNatClampNeg)) fun x2 => (if a1 = 0 then some ((x2 / 1000)) else (if a1 = 1 then some ((jrem (x2 / 100) 10)) else (if a1 = 2 then some ((jrem (x2 / 10) 10)) else (if a1 = 3 then some ((jrem x2 10)) else some ((-2)))))) else some ((-2))))))
set_option maxRecDepth 20000 in
set_option maxHeartbeats 4000000 in
theorem cmX11_book (w : go_Wd) (tx : Nat) (Q : Option Value → go_M → Prop) (μ : PM) (a0 : Int32) (a1 : Int32) (out : Int32) (h : fX11_book μ a0 a1 = some out) (hK : Q (some (.int out)) (go_mk tx μ)) : Go w 0 0 0 mtX11_book 0 [(0, .ref 0), (1, .int a0), (2, .int a1)] [] (go_mk tx μ) (go_Z w Q) := by
  unfold fX11_book at h
  refine go_iload_n dX11_book_0 1 rfl ?_
  refine go_iconst (v := (-1)) dX11_book_1 (by decide) ?_
  refine go_icmp_ne 13 dX11_book_2 (by decide) (fun hc => ?_) (fun hc => ?_)
  · have h := go_ifn hc h
    refine go_iload_n dX11_book_13 1 rfl ?_
    refine go_if_lt 34 dX11_book_14 (by decide) (fun hc => ?_) (fun hc => ?_)
    · have h := go_ifp hc h
      refine go_bipush (v := (-2)) dX11_book_34 (by decide) ?_
      cases h
      exact go_iret dX11_book_36 rfl hK
    · have h := go_ifn hc h
      refine go_iload_n dX11_book_17 1 rfl ?_
      refine go_aload_n dX11_book_18 0 rfl ?_
      refine pp_getR dX11_book_19 ff_X11_20 (Or.inl ⟨_, rfl⟩) sh_0 rf_0_1 ?_
      refine pp_getI dX11_book_22 ff_X11_268 (by decide) go_isW_12.1 ?_
      refine go_icmp_ge 34 dX11_book_25 (by decide) (fun hc => ?_) (fun hc => ?_)
      · have h := go_ifp hc h
        refine go_bipush (v := (-2)) dX11_book_34 (by decide) ?_
        cases h
        exact go_iret dX11_book_36 rfl hK
      · have h := go_ifn hc h
        refine go_iload_n dX11_book_28 1 rfl ?_
        refine go_bipush (v := 30) dX11_book_29 (by decide) ?_
        refine go_icmp_lt 37 dX11_book_31 (by decide) (fun hc => ?_) (fun hc => ?_)
        · have h := go_ifp hc h
          refine go_aload_n dX11_book_37 0 rfl ?_
          refine pp_getR dX11_book_38 ff_X11_20 (Or.inl ⟨_, rfl⟩) sh_0 rf_0_1 ?_
          refine pp_getR dX11_book_41 ff_X11_271 (Or.inr ⟨_, rfl⟩) go_isW_12.1 rf_12_3 ?_
          refine go_iload_n dX11_book_44 1 rfl ?_
          obtain ⟨hz1, h⟩ := go_chk_e h
          refine pp_ild dX11_book_45 sh_16 hz1 ?_
          obtain ⟨x2, hx2, h⟩ := go_let_e h
          refine go_top hx2 ?_
          refine go_istore_n dX11_book_46 (by decide) rfl ?_
          show Go w 0 0 0 mtX11_book 47 [(3, .int x2), (0, .ref 0), (1, .int a0), (2, .int a1)] [] (go_mk tx μ) (go_Z w Q)
          refine go_iload_n dX11_book_47 3 rfl ?_
          by_cases hc3 : a1 = 0
          · have h := go_ifp hc3 h
            refine go_tabIn (off := 32) 80 dX11_book_48 0 hc3 (by decide) (by decide) (by decide) (by decide) ?_
            refine go_iload_n dX11_book_80 0 rfl ?_
            refine go_sipush (v := 1000) dX11_book_81 (by decide) ?_
            refine go_idiv dX11_book_84 (by decide) ?_
            cases h
            exact go_iret dX11_book_85 rfl hK
          · have h := go_ifn hc3 h
            by_cases hc4 : a1 = 1
            · have h := go_ifp hc4 h
              refine go_tabIn (off := 38) 86 dX11_book_48 1 hc4 (by decide) (by decide) (by decide) (by decide) ?_
              refine go_iload_n dX11_book_86 0 rfl ?_
              refine go_bipush (v := 100) dX11_book_87 (by decide) ?_
              refine go_idiv dX11_book_89 (by decide) ?_
              refine go_bipush (v := 10) dX11_book_90 (by decide) ?_
              refine go_iremJ dX11_book_92 (by decide) ?_
              cases h
              exact go_iret dX11_book_93 rfl hK
            · have h := go_ifn hc4 h
              by_cases hc5 : a1 = 2
              · have h := go_ifp hc5 h
                refine go_tabIn (off := 46) 94 dX11_book_48 2 hc5 (by decide) (by decide) (by decide) (by decide) ?_
                refine go_iload_n dX11_book_94 0 rfl ?_
                refine go_bipush (v := 10) dX11_book_95 (by decide) ?_
                refine go_idiv dX11_book_97 (by decide) ?_
                refine go_bipush (v := 10) dX11_book_98 (by decide) ?_
                refine go_iremJ dX11_book_100 (by decide) ?_
                cases h
                exact go_iret dX11_book_101 rfl hK
              · have h := go_ifn hc5 h
                by_cases hc6 : a1 = 3
                · have h := go_ifp hc6 h
                  refine go_tabIn (off := 54) 102 dX11_book_48 3 hc6 (by decide) (by decide) (by decide) (by decide) ?_
                  refine go_iload_n dX11_book_102 0 rfl ?_
                  refine go_bipush (v := 10) dX11_book_103 (by decide) ?_
                  refine go_iremJ dX11_book_105 (by decide) ?_
                  cases h
                  exact go_iret dX11_book_106 rfl hK
                · have h := go_ifn hc6 h
                  refine go_tabOut 107 dX11_book_48 (by have g0 := go_ne_i (n := 0) hc3 (by decide); have g1 := go_ne_i (n := 1) hc4 (by decide); have g2 := go_ne_i (n := 2) hc5 (by decide); have g3 := go_ne_i (n := 3) hc6 (by decide); omega) (by decide) ?_
                  refine go_bipush (v := (-2)) dX11_book_107 (by decide) ?_
                  cases h
                  exact go_iret dX11_book_109 rfl hK
        · have h := go_ifn hc h
          refine go_bipush (v := (-2)) dX11_book_34 (by decide) ?_
          cases h
          exact go_iret dX11_book_36 rfl hK
  · have h := go_ifp hc h
    refine go_aload_n dX11_book_5 0 rfl ?_
    refine pp_getR dX11_book_6 ff_X11_20 (Or.inl ⟨_, rfl⟩) sh_0 rf_0_1 ?_
    refine pp_getI dX11_book_9 ff_X11_268 (by decide) go_isW_12.1 ?_
    cases h
    exact go_iret dX11_book_12 rfl hK
theorem ctX11_book {w : go_Wd} {tx : Nat} {μ : PM} {a0 : Int32} {a1 : Int32} {r : Int32}  (h : fX11_book μ a0 a1 = some r) : Ct w 0 0 0 mtX11_book [.ref 0, .int a0, .int a1] (go_mk tx μ) (fun r' M' => r' = some (.int r) ∧ M' = go_mk tx μ) :=
  go_entry rfl (by decide) (Nat.le_of_ble_eq_true rfl) (cmX11_book w tx _ μ a0 a1 _ h ⟨rfl, rfl⟩)
def lbX11_foretold_75 (a0 : Int32) (a1 : Int32) (a2 : Int32) (v4 : Option Nat) (v5 : Int32) (v6 : Int32) (μ : PM) : Option ((Int32 × PM) ⊕ ((PM) ⊕ (Int32 × PM))) :=
  (if v5 ≤ v6 then some (.inr (.inl μ)) else (fX0_passHour μ v4 337).bind fun q4 => some (.inl ((v6 + 1), q4.2)))
def fX11_foretold (μ : PM) (a0 : Int32) (a1 : Int32) (a2 : Int32) : Option (Int32 × PM) :=
  (if a0 < 1 then some (((-2), μ)) else (if 60 < a0 then some (((-2), μ)) else (if (fX11_isName μ a1) = 0 then some (((-2), μ)) else (if a2 < 0 then some (((-2), μ)) else (if a2 ≤ 1 then go_let (fX10_become μ 337 12) fun q1 => (fX11_findText q1 (q1.1 1 14)).bind fun q2 => go_let ((jmin a0 (9999 - (q1.1 12 9)))) fun x3 => ((lp (fun s => lbX11_foretold_75 a0 a1 a2 q2 x3 s.1 s.2) go_fuel (0, q1)).bind fun ρ5 => go_cs ρ5 (fun e6 => (if a2 = 0 then go_chk a1 6 <| some (((e6.1 (337 + 1) a1.toNatClampNeg), e6)) else go_chk a1 6 <| some (((e6.1 (337 + 2) a1.toNatClampNeg), e6)))) (fun y => some y)) else some (((-2), μ)))))))
def ggX11_foretold_75 (w : go_Wd) (tx : Nat) (Q : Option Value → go_M → Prop) (a0 : Int32) (a1 : Int32) (a2 : Int32) (v4 : Option Nat) (v5 : Int32) (s : Int32 × PM) : Prop := Go w 6 0 0 mtX11_foretold 75 [(0, .ref 0), (2, .int a1), (3, .int a2), (4, go_on v4), (5, .int v5), (6, .int s.1)] [] (go_mk tx s.2) (go_Z w Q)
def eeX11_foretold_75 (w : go_Wd) (tx : Nat) (Q : Option Value → go_M → Prop) (a0 : Int32) (a1 : Int32) (a2 : Int32) (v4 : Option Nat) (v5 : Int32) : (PM) ⊕ (Int32 × PM) → Prop
  | .inl e => Go w 6 0 0 mtX11_foretold 102 [(0, .ref 0), (2, .int a1), (3, .int a2)] [] (go_mk tx e) (go_Z w Q)
  | .inr y => Q (some (.int y.1)) (go_mk tx y.2)
set_option maxRecDepth 20000 in
set_option maxHeartbeats 4000000 in
theorem lqX11_foretold_75 (w : go_Wd) (tx : Nat) (Q : Option Value → go_M → Prop) (a0 : Int32) (a1 : Int32) (a2 : Int32) (v4 : Option Nat) (v5 : Int32) (hv4 : ∀ q, v4 = some q → go_isT q) (v6 : Int32) (μ : PM) (out : (Int32 × PM) ⊕ ((PM) ⊕ (Int32 × PM))) (h : lbX11_foretold_75 a0 a1 a2 v4 v5 v6 μ = some out) (hK : go_out (ggX11_foretold_75 w tx Q a0 a1 a2 v4 v5) (eeX11_foretold_75 w tx Q a0 a1 a2 v4 v5) out) : ggX11_foretold_75 w tx Q a0 a1 a2 v4 v5 (v6, μ) := by
  unfold lbX11_foretold_75 at h
  show Go w 6 0 0 mtX11_foretold 75 [(0, .ref 0), (2, .int a1), (3, .int a2), (4, go_on v4), (5, .int v5), (6, .int v6)] [] (go_mk tx μ) (go_Z w Q)
  refine go_iload dX11_foretold_75 5 rfl ?_
  refine go_iload dX11_foretold_77 4 rfl ?_
  refine go_icmp_ge 102 dX11_foretold_79 (by decide) (fun hc => ?_) (fun hc => ?_)
  · have h := go_ifp hc h
    cases h
    have hK : Go w 6 0 0 mtX11_foretold 102 [(0, .ref 0), (2, .int a1), (3, .int a2)] [] (go_mk tx μ) (go_Z w Q) := hK
    exact go_pick [0, 1, 2] rfl hK
  · have h := go_ifn hc h
    refine go_aload_n dX11_foretold_82 0 rfl ?_
    refine pp_getR dX11_foretold_83 ff_X11_64 (Or.inl ⟨_, rfl⟩) sh_0 rf_0_8 ?_
    refine go_aloadO2 dX11_foretold_86 3 rfl ?_
    refine go_aload_n dX11_foretold_88 0 rfl ?_
    refine pp_getR dX11_foretold_89 ff_X11_27 (Or.inl ⟨_, rfl⟩) sh_0 rf_0_3 ?_
    obtain ⟨q4, hq4, h⟩ := go_bind h
    refine pp_callV (as := [go_on v4, .ref 337]) (st := []) (rv := (some (.int q4.1))) (μ1 := q4.2) (st1 := [.int q4.1]) dX11_foretold_92 ll_X11_282 sh_386 (by decide) rfl (ctX0_passHour hv4 go_isW_337 hq4) rfl (Nat.le_of_ble_eq_true rfl) (Nat.le_of_ble_eq_true rfl) (go_Z_up w _) rfl rfl ?_
    refine go_pop dX11_foretold_95 rfl ?_
    refine go_iinc (v := (v6 + 1)) dX11_foretold_96 5 rfl rfl (by decide) rfl ?_
    show Go w 6 0 0 mtX11_foretold 99 [(6, .int (v6 + 1)), (0, .ref 0), (2, .int a1), (3, .int a2), (4, go_on v4), (5, .int v5)] [] (go_mk tx q4.2) (go_Z w Q)
    refine go_goto 75 dX11_foretold_99 (by decide) ?_
    cases h
    have hK : Go w 6 0 0 mtX11_foretold 75 [(0, .ref 0), (2, .int a1), (3, .int a2), (4, go_on v4), (5, .int v5), (6, .int (v6 + 1))] [] (go_mk tx q4.2) (go_Z w Q) := hK
    exact go_pick [1, 2, 3, 4, 5, 0] rfl hK
set_option maxRecDepth 20000 in
set_option maxHeartbeats 4000000 in
theorem cmX11_foretold (w : go_Wd) (tx : Nat) (Q : Option Value → go_M → Prop) (μ : PM) (a0 : Int32) (a1 : Int32) (a2 : Int32) (out : Int32 × PM) (h : fX11_foretold μ a0 a1 a2 = some out) (hK : Q (some (.int out.1)) (go_mk tx out.2)) : Go w 6 0 0 mtX11_foretold 0 [(0, .ref 0), (1, .int a0), (2, .int a1), (3, .int a2)] [] (go_mk tx μ) (go_Z w Q) := by
  unfold fX11_foretold at h
  refine go_iload_n dX11_foretold_0 1 rfl ?_
  refine go_iconst (v := 1) dX11_foretold_1 (by decide) ?_
  refine go_icmp_lt 28 dX11_foretold_2 (by decide) (fun hc => ?_) (fun hc => ?_)
  · have h := go_ifp hc h
    refine go_bipush (v := (-2)) dX11_foretold_28 (by decide) ?_
    cases h
    exact go_iret dX11_foretold_30 rfl hK
  · have h := go_ifn hc h
    refine go_iload_n dX11_foretold_5 1 rfl ?_
    refine go_bipush (v := 60) dX11_foretold_6 (by decide) ?_
    refine go_icmp_gt 28 dX11_foretold_8 (by decide) (fun hc => ?_) (fun hc => ?_)
    · have h := go_ifp hc h
      refine go_bipush (v := (-2)) dX11_foretold_28 (by decide) ?_
      cases h
      exact go_iret dX11_foretold_30 rfl hK
    · have h := go_ifn hc h
      refine go_aload_n dX11_foretold_11 0 rfl ?_
      refine go_iload_n dX11_foretold_12 2 rfl ?_
      refine pp_callV (as := [.int a1]) (st := []) (rv := (some (.int (fX11_isName μ a1)))) (μ1 := μ) (st1 := [.int (fX11_isName μ a1)]) dX11_foretold_13 ll_X11_240 sh_0 (by decide) rfl (ctX11_isName  rfl) rfl (Nat.le_of_ble_eq_true rfl) (Nat.le_of_ble_eq_true rfl) (go_Z_up w _) rfl rfl ?_
      refine go_if_eq 28 dX11_foretold_16 (by decide) (fun hc => ?_) (fun hc => ?_)
      · have h := go_ifp hc h
        refine go_bipush (v := (-2)) dX11_foretold_28 (by decide) ?_
        cases h
        exact go_iret dX11_foretold_30 rfl hK
      · have h := go_ifn hc h
        refine go_iload_n dX11_foretold_19 3 rfl ?_
        refine go_if_lt 28 dX11_foretold_20 (by decide) (fun hc => ?_) (fun hc => ?_)
        · have h := go_ifp hc h
          refine go_bipush (v := (-2)) dX11_foretold_28 (by decide) ?_
          cases h
          exact go_iret dX11_foretold_30 rfl hK
        · have h := go_ifn hc h
          refine go_iload_n dX11_foretold_23 3 rfl ?_
          refine go_iconst (v := 1) dX11_foretold_24 (by decide) ?_
          refine go_icmp_le 31 dX11_foretold_25 (by decide) (fun hc => ?_) (fun hc => ?_)
          · have h := go_ifp hc h
            refine go_aload_n dX11_foretold_31 0 rfl ?_
            refine pp_getR dX11_foretold_32 ff_X11_27 (Or.inl ⟨_, rfl⟩) sh_0 rf_0_3 ?_
            refine go_aload_n dX11_foretold_35 0 rfl ?_
            refine pp_getR dX11_foretold_36 ff_X11_20 (Or.inl ⟨_, rfl⟩) sh_0 rf_0_1 ?_
            obtain ⟨q1, hq1, h⟩ := go_let_e h
            refine pp_callV (as := [.ref 12]) (st := []) (rv := none) (μ1 := q1) (st1 := []) dX11_foretold_39 ll_X11_274 go_isW_337.1 (by decide) rfl (ctX10_become go_isW_337 go_isW_12 hq1.symm) rfl (Nat.le_of_ble_eq_true rfl) (Nat.le_of_ble_eq_true rfl) (go_Z_up w _) rfl rfl ?_
            refine go_aload_n dX11_foretold_42 0 rfl ?_
            refine go_aload_n dX11_foretold_43 0 rfl ?_
            refine pp_getR dX11_foretold_44 ff_X11_10 (Or.inl ⟨_, rfl⟩) sh_0 rf_0_0 ?_
            refine pp_getI dX11_foretold_47 ff_X11_169 (by decide) go_isV_1.1 ?_
            obtain ⟨q2, hq2, h⟩ := go_bind h
            refine pp_callV (as := [.int (q1.1 1 14)]) (st := []) (rv := (some (go_on q2))) (μ1 := q1) (st1 := [go_on q2]) dX11_foretold_50 ll_X11_204 sh_0 (by decide) rfl (ctX11_findText  hq2) rfl (Nat.le_of_ble_eq_true rfl) (Nat.le_of_ble_eq_true rfl) (go_Z_up w _) rfl rfl ?_
            refine go_astoreO2 dX11_foretold_53 (by decide) rfl ?_
            show Go w 6 0 0 mtX11_foretold 55 [(4, go_on q2), (0, .ref 0), (1, .int a0), (2, .int a1), (3, .int a2)] [] (go_mk tx q1) (go_Z w Q)
            refine go_iload_n dX11_foretold_55 2 rfl ?_
            refine go_sipush (v := 9999) dX11_foretold_56 (by decide) ?_
            refine go_aload_n dX11_foretold_59 1 rfl ?_
            refine pp_getR dX11_foretold_60 ff_X11_20 (Or.inl ⟨_, rfl⟩) sh_0 rf_0_1 ?_
            refine pp_getI dX11_foretold_63 ff_X11_198 (by decide) go_isW_12.1 ?_
            refine go_isub dX11_foretold_66 ?_
            refine go_mmin dX11_foretold_67 mm_X11_277 (by decide) (Nat.le_of_ble_eq_true rfl) ?_
            refine go_top (x := (jmin a0 (9999 - (q1.1 12 9)))) rfl ?_
            obtain ⟨x3, hx3, h⟩ := go_let_e h
            refine go_top hx3 ?_
            refine go_istore (lv' := [(5, .int x3), (4, go_on q2), (0, .ref 0), (1, .int a0), (2, .int a1), (3, .int a2)]) dX11_foretold_70 (by decide) (by cases q2 <;> rfl) ?_
            show Go w 6 0 0 mtX11_foretold 72 [(5, .int x3), (4, go_on q2), (0, .ref 0), (1, .int a0), (2, .int a1), (3, .int a2)] [] (go_mk tx q1) (go_Z w Q)
            refine go_iconst (v := 0) dX11_foretold_72 (by decide) ?_
            refine go_istore dX11_foretold_73 (by decide) rfl ?_
            show Go w 6 0 0 mtX11_foretold 75 [(6, .int 0), (5, .int x3), (4, go_on q2), (0, .ref 0), (1, .int a0), (2, .int a1), (3, .int a2)] [] (go_mk tx q1) (go_Z w Q)
            obtain ⟨ρ5, hρ5, h⟩ := go_bind h
            refine go_pick [3, 5, 6, 2, 1, 0] rfl ?_
            refine go_lp (G := ggX11_foretold_75 w tx Q a0 a1 a2 q2 x3) (E := eeX11_foretold_75 w tx Q a0 a1 a2 q2 x3) (fun s out h hK => lqX11_foretold_75 w tx Q a0 a1 a2 q2 x3 (opX11_findText  hq2) s.1 s.2 out h hK) go_fuel (0, q1) ρ5 hρ5 ?_
            rcases ρ5 with e6 | y
            · have h := go_csl h
              show Go w 6 0 0 mtX11_foretold 102 [(0, .ref 0), (2, .int a1), (3, .int a2)] [] (go_mk tx e6) (go_Z w Q)
              refine go_iload_n dX11_foretold_102 2 rfl ?_
              refine go_if_ne 118 dX11_foretold_103 (by decide) (fun hc => ?_) (fun hc => ?_)
              · have h := go_ifn hc h
                refine go_aload_n dX11_foretold_118 0 rfl ?_
                refine pp_getR dX11_foretold_119 ff_X11_27 (Or.inl ⟨_, rfl⟩) sh_0 rf_0_3 ?_
                refine pp_getR dX11_foretold_122 ff_X11_118 (Or.inr ⟨_, rfl⟩) go_isW_337.1 (go_RF_ne go_isW_337.2.2.2.2.2.2.2.2.2 go_isW_337.2.2.2.2.2.2.1) ?_
                refine go_iload_n dX11_foretold_125 1 rfl ?_
                obtain ⟨hz7, h⟩ := go_chk_e h
                refine pp_ild dX11_foretold_126 go_isW_337.2.2.1 hz7 ?_
                cases h
                exact go_iret dX11_foretold_127 rfl hK
              · have h := go_ifp hc h
                refine go_aload_n dX11_foretold_106 0 rfl ?_
                refine pp_getR dX11_foretold_107 ff_X11_27 (Or.inl ⟨_, rfl⟩) sh_0 rf_0_3 ?_
                refine pp_getR dX11_foretold_110 ff_X11_115 (Or.inr ⟨_, rfl⟩) go_isW_337.1 (go_RF_ne go_isW_337.2.2.2.2.2.2.2.2.2 go_isW_337.2.2.2.2.2.1) ?_
                refine go_iload_n dX11_foretold_113 1 rfl ?_
                obtain ⟨hz8, h⟩ := go_chk_e h
                refine pp_ild dX11_foretold_114 go_isW_337.2.1 hz8 ?_
                refine go_goto 127 dX11_foretold_115 (by decide) ?_
                cases h
                exact go_iret dX11_foretold_127 rfl hK
            · have h := go_csr h
              cases h
              exact hK
          · have h := go_ifn hc h
            refine go_bipush (v := (-2)) dX11_foretold_28 (by decide) ?_
            cases h
            exact go_iret dX11_foretold_30 rfl hK
theorem ctX11_foretold {w : go_Wd} {tx : Nat} {μ : PM} {a0 : Int32} {a1 : Int32} {a2 : Int32} {r : Int32} {μ1 : PM}  (h : fX11_foretold μ a0 a1 a2 = some (r, μ1)) : Ct w 6 0 0 mtX11_foretold [.ref 0, .int a0, .int a1, .int a2] (go_mk tx μ) (fun r' M' => r' = some (.int r) ∧ M' = go_mk tx μ1) :=
  go_entry rfl (by decide) (Nat.le_of_ble_eq_true rfl) (cmX11_foretold w tx _ μ a0 a1 a2 _ h ⟨rfl, rfl⟩)
def fX11_wants (μ : PM) (a0 : Int32) (a1 : Int32) (a2 : Int32) : Option (Int32 × PM) :=
  (if (fX11_couldLike a0 a1 a2) = 0 then some ((0, μ)) else go_chk ((a0 * 6) + a1) 30 <| go_let (pm_wi μ 6 (((a0 * 6) + a1) : Int32).toNatClampNeg a2) fun μ1 => some ((1, μ1)))
set_option maxRecDepth 20000 in
set_option maxHeartbeats 4000000 in
theorem cmX11_wants (w : go_Wd) (tx : Nat) (Q : Option Value → go_M → Prop) (μ : PM) (a0 : Int32) (a1 : Int32) (a2 : Int32) (out : Int32 × PM) (h : fX11_wants μ a0 a1 a2 = some out) (hK : Q (some (.int out.1)) (go_mk tx out.2)) : Go w 1 0 0 mtX11_wants 0 [(0, .ref 0), (1, .int a0), (2, .int a1), (3, .int a2)] [] (go_mk tx μ) (go_Z w Q) := by
  unfold fX11_wants at h
  refine go_iload_n dX11_wants_0 1 rfl ?_
  refine go_iload_n dX11_wants_1 2 rfl ?_
  refine go_iload_n dX11_wants_2 3 rfl ?_
  refine pp_callS (as := [.int a0, .int a1, .int a2]) (st := []) (rv := (some (.int (fX11_couldLike a0 a1 a2)))) (μ1 := μ) (st1 := [.int (fX11_couldLike a0 a1 a2)]) dX11_wants_3 ll_X11_286 (ctX11_couldLike  rfl) rfl (Nat.le_of_ble_eq_true rfl) (Nat.le_of_ble_eq_true rfl) (go_Z_up w _) rfl rfl ?_
  refine go_if_ne 11 dX11_wants_6 (by decide) (fun hc => ?_) (fun hc => ?_)
  · have h := go_ifn hc h
    refine go_aload_n dX11_wants_11 0 rfl ?_
    refine pp_getR dX11_wants_12 ff_X11_10 (Or.inl ⟨_, rfl⟩) sh_0 rf_0_0 ?_
    refine pp_getR dX11_wants_15 ff_X11_289 (Or.inr ⟨_, rfl⟩) go_isV_1.1 rf_1_4 ?_
    refine go_iload_n dX11_wants_18 1 rfl ?_
    refine go_bipush (v := 6) dX11_wants_19 (by decide) ?_
    refine go_imul dX11_wants_21 ?_
    refine go_iload_n dX11_wants_22 2 rfl ?_
    refine go_iadd dX11_wants_23 ?_
    refine go_iload_n dX11_wants_24 3 rfl ?_
    obtain ⟨hz2, h⟩ := go_chk_e h
    obtain ⟨μ1, hμ1, h⟩ := go_let_e h
    refine pp_ist dX11_wants_25 sh_6 hz2 hμ1 ?_
    refine go_iconst (v := 1) dX11_wants_26 (by decide) ?_
    cases h
    exact go_zret dX11_wants_27 rfl (Or.inr rfl) hK
  · have h := go_ifp hc h
    refine go_iconst (v := 0) dX11_wants_9 (by decide) ?_
    cases h
    exact go_zret dX11_wants_10 rfl (Or.inl rfl) hK
theorem ctX11_wants {w : go_Wd} {tx : Nat} {μ : PM} {a0 : Int32} {a1 : Int32} {a2 : Int32} {r : Int32} {μ1 : PM}  (h : fX11_wants μ a0 a1 a2 = some (r, μ1)) : Ct w 1 0 0 mtX11_wants [.ref 0, .int a0, .int a1, .int a2] (go_mk tx μ) (fun r' M' => r' = some (.int r) ∧ M' = go_mk tx μ1) :=
  go_entry rfl (by decide) (Nat.le_of_ble_eq_true rfl) (cmX11_wants w tx _ μ a0 a1 a2 _ h ⟨rfl, rfl⟩)
def fX11_favours (μ : PM) (a0 : Int32) (a1 : Int32) (a2 : Int32) : Option (Int32 × PM) :=
  (if (fX11_couldLike a1 a0 a2) = 0 then some ((0, μ)) else go_chk ((a0 * 5) + a1) 30 <| go_let (pm_wi μ 7 (((a0 * 5) + a1) : Int32).toNatClampNeg a2) fun μ1 => some ((1, μ1)))
set_option maxRecDepth 20000 in
set_option maxHeartbeats 4000000 in
theorem cmX11_favours (w : go_Wd) (tx : Nat) (Q : Option Value → go_M → Prop) (μ : PM) (a0 : Int32) (a1 : Int32) (a2 : Int32) (out : Int32 × PM) (h : fX11_favours μ a0 a1 a2 = some out) (hK : Q (some (.int out.1)) (go_mk tx out.2)) : Go w 1 0 0 mtX11_favours 0 [(0, .ref 0), (1, .int a0), (2, .int a1), (3, .int a2)] [] (go_mk tx μ) (go_Z w Q) := by
  unfold fX11_favours at h
  refine go_iload_n dX11_favours_0 2 rfl ?_
  refine go_iload_n dX11_favours_1 1 rfl ?_
  refine go_iload_n dX11_favours_2 3 rfl ?_
  refine pp_callS (as := [.int a1, .int a0, .int a2]) (st := []) (rv := (some (.int (fX11_couldLike a1 a0 a2)))) (μ1 := μ) (st1 := [.int (fX11_couldLike a1 a0 a2)]) dX11_favours_3 ll_X11_286 (ctX11_couldLike  rfl) rfl (Nat.le_of_ble_eq_true rfl) (Nat.le_of_ble_eq_true rfl) (go_Z_up w _) rfl rfl ?_
  refine go_if_ne 11 dX11_favours_6 (by decide) (fun hc => ?_) (fun hc => ?_)
  · have h := go_ifn hc h
    refine go_aload_n dX11_favours_11 0 rfl ?_
    refine pp_getR dX11_favours_12 ff_X11_10 (Or.inl ⟨_, rfl⟩) sh_0 rf_0_0 ?_
    refine pp_getR dX11_favours_15 ff_X11_292 (Or.inr ⟨_, rfl⟩) go_isV_1.1 rf_1_5 ?_
    refine go_iload_n dX11_favours_18 1 rfl ?_
    refine go_iconst (v := 5) dX11_favours_19 (by decide) ?_
    refine go_imul dX11_favours_20 ?_
    refine go_iload_n dX11_favours_21 2 rfl ?_
    refine go_iadd dX11_favours_22 ?_
    refine go_iload_n dX11_favours_23 3 rfl ?_
    obtain ⟨hz2, h⟩ := go_chk_e h
    obtain ⟨μ1, hμ1, h⟩ := go_let_e h
    refine pp_ist dX11_favours_24 sh_7 hz2 hμ1 ?_
    refine go_iconst (v := 1) dX11_favours_25 (by decide) ?_
    cases h
    exact go_zret dX11_favours_26 rfl (Or.inr rfl) hK
  · have h := go_ifp hc h
    refine go_iconst (v := 0) dX11_favours_9 (by decide) ?_
    cases h
    exact go_zret dX11_favours_10 rfl (Or.inl rfl) hK
theorem ctX11_favours {w : go_Wd} {tx : Nat} {μ : PM} {a0 : Int32} {a1 : Int32} {a2 : Int32} {r : Int32} {μ1 : PM}  (h : fX11_favours μ a0 a1 a2 = some (r, μ1)) : Ct w 1 0 0 mtX11_favours [.ref 0, .int a0, .int a1, .int a2] (go_mk tx μ) (fun r' M' => r' = some (.int r) ∧ M' = go_mk tx μ1) :=
  go_entry rfl (by decide) (Nat.le_of_ble_eq_true rfl) (cmX11_favours w tx _ μ a0 a1 a2 _ h ⟨rfl, rfl⟩)
def fX11_stable (μ : PM) (a0 : Int32) (a1 : Int32) : Option (Int32 × PM) :=
  (if (fX11_isFamily μ a0) = 0 then some (((-1), μ)) else (fX4_settle μ a1).bind fun q1 => (fX4_hasOf q1 a0).bind fun q2 => some ((q2, q1)))
set_option maxRecDepth 20000 in
set_option maxHeartbeats 4000000 in
theorem cmX11_stable (w : go_Wd) (tx : Nat) (Q : Option Value → go_M → Prop) (μ : PM) (a0 : Int32) (a1 : Int32) (out : Int32 × PM) (h : fX11_stable μ a0 a1 = some out) (hK : Q (some (.int out.1)) (go_mk tx out.2)) : Go w 5 0 0 mtX11_stable 0 [(0, .ref 0), (1, .int a0), (2, .int a1)] [] (go_mk tx μ) (go_Z w Q) := by
  unfold fX11_stable at h
  refine go_aload_n dX11_stable_0 0 rfl ?_
  refine go_iload_n dX11_stable_1 1 rfl ?_
  refine pp_callV (as := [.int a0]) (st := []) (rv := (some (.int (fX11_isFamily μ a0)))) (μ1 := μ) (st1 := [.int (fX11_isFamily μ a0)]) dX11_stable_2 ll_X11_192 sh_0 (by decide) rfl (ctX11_isFamily  rfl) rfl (Nat.le_of_ble_eq_true rfl) (Nat.le_of_ble_eq_true rfl) (go_Z_up w _) rfl rfl ?_
  refine go_if_ne 10 dX11_stable_5 (by decide) (fun hc => ?_) (fun hc => ?_)
  · have h := go_ifn hc h
    refine go_aload_n dX11_stable_10 0 rfl ?_
    refine pp_getR dX11_stable_11 ff_X11_71 (Or.inl ⟨_, rfl⟩) sh_0 rf_0_9 ?_
    refine go_iload_n dX11_stable_14 2 rfl ?_
    obtain ⟨q1, hq1, h⟩ := go_bind h
    refine pp_callV (as := [.int a1]) (st := []) (rv := none) (μ1 := q1) (st1 := []) dX11_stable_15 ll_X11_295 sh_387 (by decide) rfl (ctX4_settle  hq1) rfl (Nat.le_of_ble_eq_true rfl) (Nat.le_of_ble_eq_true rfl) (go_Z_up w _) rfl rfl ?_
    refine go_aload_n dX11_stable_18 0 rfl ?_
    refine pp_getR dX11_stable_19 ff_X11_71 (Or.inl ⟨_, rfl⟩) sh_0 rf_0_9 ?_
    refine go_iload_n dX11_stable_22 1 rfl ?_
    obtain ⟨q2, hq2, h⟩ := go_bind h
    refine pp_callV (as := [.int a0]) (st := []) (rv := (some (.int q2))) (μ1 := q1) (st1 := [.int q2]) dX11_stable_23 ll_X11_299 sh_387 (by decide) rfl (ctX4_hasOf  hq2) rfl (Nat.le_of_ble_eq_true rfl) (Nat.le_of_ble_eq_true rfl) (go_Z_up w _) rfl rfl ?_
    cases h
    exact go_iret dX11_stable_26 rfl hK
  · have h := go_ifp hc h
    refine go_iconst (v := (-1)) dX11_stable_8 (by decide) ?_
    cases h
    exact go_iret dX11_stable_9 rfl hK
theorem ctX11_stable {w : go_Wd} {tx : Nat} {μ : PM} {a0 : Int32} {a1 : Int32} {r : Int32} {μ1 : PM}  (h : fX11_stable μ a0 a1 = some (r, μ1)) : Ct w 5 0 0 mtX11_stable [.ref 0, .int a0, .int a1] (go_mk tx μ) (fun r' M' => r' = some (.int r) ∧ M' = go_mk tx μ1) :=
  go_entry rfl (by decide) (Nat.le_of_ble_eq_true rfl) (cmX11_stable w tx _ μ a0 a1 _ h ⟨rfl, rfl⟩)
def fX11_stables (μ : PM)  : Option (Int32 × PM) :=
  (fX4_countStable μ).bind fun q1 => some ((q1.1, q1.2))
set_option maxRecDepth 20000 in
set_option maxHeartbeats 4000000 in
theorem cmX11_stables (w : go_Wd) (tx : Nat) (Q : Option Value → go_M → Prop) (μ : PM)  (out : Int32 × PM) (h : fX11_stables μ = some out) (hK : Q (some (.int out.1)) (go_mk tx out.2)) : Go w 92 0 0 mtX11_stables 0 [(0, .ref 0)] [] (go_mk tx μ) (go_Z w Q) := by
  unfold fX11_stables at h
  refine go_aload_n dX11_stables_0 0 rfl ?_
  refine pp_getR dX11_stables_1 ff_X11_71 (Or.inl ⟨_, rfl⟩) sh_0 rf_0_9 ?_
  obtain ⟨q1, hq1, h⟩ := go_bind h
  refine pp_callV (as := []) (st := []) (rv := (some (.int q1.1))) (μ1 := q1.2) (st1 := [.int q1.1]) dX11_stables_4 ll_X11_302 sh_387 (by decide) rfl (ctX4_countStable  hq1) rfl (Nat.le_of_ble_eq_true rfl) (Nat.le_of_ble_eq_true rfl) (go_Z_up w _) rfl rfl ?_
  cases h
  exact go_iret dX11_stables_7 rfl hK
theorem ctX11_stables {w : go_Wd} {tx : Nat} {μ : PM}  {r : Int32} {μ1 : PM}  (h : fX11_stables μ = some (r, μ1)) : Ct w 92 0 0 mtX11_stables [.ref 0] (go_mk tx μ) (fun r' M' => r' = some (.int r) ∧ M' = go_mk tx μ1) :=
  go_entry rfl (by decide) (Nat.le_of_ble_eq_true rfl) (cmX11_stables w tx _ μ  _ h ⟨rfl, rfl⟩)
def jjX11_give_53 (μ : PM) (a0 : Int32) (a1 : Int32)   : Option (Int32 × PM) :=
  go_chk a0 5 <| go_let (pm_wi μ 8 a0.toNatClampNeg a1) fun μ1 => some ((1, μ1))
def fX11_give (μ : PM) (a0 : Int32) (a1 : Int32) : Option (Int32 × PM) :=
  (if (fX11_isFamily μ a0) = 0 then some ((0, μ)) else (if a1 = (-1) then jjX11_give_53 μ a0 a1 else (if (fX11_isName μ a1) = 0 then some ((0, μ)) else (fX4_ownerOf μ 8 a1).bind fun q3 => (if q3 = (-1) then jjX11_give_53 μ a0 a1 else (if q3 = a0 then jjX11_give_53 μ a0 a1 else some ((0, μ)))))))
set_option maxRecDepth 20000 in
set_option maxHeartbeats 4000000 in
theorem jqX11_give_53 (w : go_Wd) (tx : Nat) (Q : Option Value → go_M → Prop) (μ : PM) (a0 : Int32) (a1 : Int32)     (out : Int32 × PM) (h : jjX11_give_53 μ a0 a1   = some out) (hK : Q (some (.int out.1)) (go_mk tx out.2)) : Go w 1 0 0 mtX11_give 53 [(0, .ref 0), (1, .int a0), (2, .int a1)] [] (go_mk tx μ) (go_Z w Q) := by
  unfold jjX11_give_53 at h
  refine go_aload_n dX11_give_53 0 rfl ?_
  refine pp_getR dX11_give_54 ff_X11_10 (Or.inl ⟨_, rfl⟩) sh_0 rf_0_0 ?_
  refine pp_getR dX11_give_57 ff_X11_306 (Or.inr ⟨_, rfl⟩) go_isV_1.1 rf_1_6 ?_
  refine go_iload_n dX11_give_60 1 rfl ?_
  refine go_iload_n dX11_give_61 2 rfl ?_
  obtain ⟨hz2, h⟩ := go_chk_e h
  obtain ⟨μ1, hμ1, h⟩ := go_let_e h
  refine pp_ist dX11_give_62 sh_8 hz2 hμ1 ?_
  refine go_iconst (v := 1) dX11_give_63 (by decide) ?_
  cases h
  exact go_zret dX11_give_64 rfl (Or.inr rfl) hK
set_option maxRecDepth 20000 in
set_option maxHeartbeats 4000000 in
theorem cmX11_give (w : go_Wd) (tx : Nat) (Q : Option Value → go_M → Prop) (μ : PM) (a0 : Int32) (a1 : Int32) (out : Int32 × PM) (h : fX11_give μ a0 a1 = some out) (hK : Q (some (.int out.1)) (go_mk tx out.2)) : Go w 1 0 0 mtX11_give 0 [(0, .ref 0), (1, .int a0), (2, .int a1)] [] (go_mk tx μ) (go_Z w Q) := by
  unfold fX11_give at h
  refine go_aload_n dX11_give_0 0 rfl ?_
  refine go_iload_n dX11_give_1 1 rfl ?_
  refine pp_callV (as := [.int a0]) (st := []) (rv := (some (.int (fX11_isFamily μ a0)))) (μ1 := μ) (st1 := [.int (fX11_isFamily μ a0)]) dX11_give_2 ll_X11_192 sh_0 (by decide) rfl (ctX11_isFamily  rfl) rfl (Nat.le_of_ble_eq_true rfl) (Nat.le_of_ble_eq_true rfl) (go_Z_up w _) rfl rfl ?_
  refine go_if_ne 10 dX11_give_5 (by decide) (fun hc => ?_) (fun hc => ?_)
  · have h := go_ifn hc h
    refine go_iload_n dX11_give_10 2 rfl ?_
    refine go_iconst (v := (-1)) dX11_give_11 (by decide) ?_
    refine go_icmp_eq 53 dX11_give_12 (by decide) (fun hc => ?_) (fun hc => ?_)
    · have h := go_ifp hc h
      refine go_pick [0, 1, 2] rfl ?_
      exact jqX11_give_53 w tx Q μ a0 a1     _ h hK
    · have h := go_ifn hc h
      refine go_aload_n dX11_give_15 0 rfl ?_
      refine go_iload_n dX11_give_16 2 rfl ?_
      refine pp_callV (as := [.int a1]) (st := []) (rv := (some (.int (fX11_isName μ a1)))) (μ1 := μ) (st1 := [.int (fX11_isName μ a1)]) dX11_give_17 ll_X11_240 sh_0 (by decide) rfl (ctX11_isName  rfl) rfl (Nat.le_of_ble_eq_true rfl) (Nat.le_of_ble_eq_true rfl) (go_Z_up w _) rfl rfl ?_
      refine go_if_ne 25 dX11_give_20 (by decide) (fun hc => ?_) (fun hc => ?_)
      · have h := go_ifn hc h
        refine go_aload_n dX11_give_25 0 rfl ?_
        refine pp_getR dX11_give_26 ff_X11_71 (Or.inl ⟨_, rfl⟩) sh_0 rf_0_9 ?_
        refine go_aload_n dX11_give_29 0 rfl ?_
        refine pp_getR dX11_give_30 ff_X11_10 (Or.inl ⟨_, rfl⟩) sh_0 rf_0_0 ?_
        refine pp_getR dX11_give_33 ff_X11_306 (Or.inr ⟨_, rfl⟩) go_isV_1.1 rf_1_6 ?_
        refine go_iload_n dX11_give_36 2 rfl ?_
        obtain ⟨q3, hq3, h⟩ := go_bind h
        refine pp_callV (as := [.ref 8, .int a1]) (st := []) (rv := (some (.int q3))) (μ1 := μ) (st1 := [.int q3]) dX11_give_37 ll_X11_309 sh_387 (by decide) rfl (ctX4_ownerOf sh_8 hq3) rfl (Nat.le_of_ble_eq_true rfl) (Nat.le_of_ble_eq_true rfl) (go_Z_up w _) rfl rfl ?_
        refine go_istore_n dX11_give_40 (by decide) rfl ?_
        show Go w 1 0 0 mtX11_give 41 [(3, .int q3), (0, .ref 0), (1, .int a0), (2, .int a1)] [] (go_mk tx μ) (go_Z w Q)
        refine go_iload_n dX11_give_41 0 rfl ?_
        refine go_iconst (v := (-1)) dX11_give_42 (by decide) ?_
        refine go_icmp_eq 53 dX11_give_43 (by decide) (fun hc => ?_) (fun hc => ?_)
        · have h := go_ifp hc h
          refine go_pick [1, 2, 3] rfl ?_
          exact jqX11_give_53 w tx Q μ a0 a1     _ h hK
        · have h := go_ifn hc h
          refine go_iload_n dX11_give_46 0 rfl ?_
          refine go_iload_n dX11_give_47 2 rfl ?_
          refine go_icmp_eq 53 dX11_give_48 (by decide) (fun hc => ?_) (fun hc => ?_)
          · have h := go_ifp hc h
            refine go_pick [1, 2, 3] rfl ?_
            exact jqX11_give_53 w tx Q μ a0 a1     _ h hK
          · have h := go_ifn hc h
            refine go_iconst (v := 0) dX11_give_51 (by decide) ?_
            cases h
            exact go_zret dX11_give_52 rfl (Or.inl rfl) hK
      · have h := go_ifp hc h
        refine go_iconst (v := 0) dX11_give_23 (by decide) ?_
        cases h
        exact go_zret dX11_give_24 rfl (Or.inl rfl) hK
  · have h := go_ifp hc h
    refine go_iconst (v := 0) dX11_give_8 (by decide) ?_
    cases h
    exact go_zret dX11_give_9 rfl (Or.inl rfl) hK
theorem ctX11_give {w : go_Wd} {tx : Nat} {μ : PM} {a0 : Int32} {a1 : Int32} {r : Int32} {μ1 : PM}  (h : fX11_give μ a0 a1 = some (r, μ1)) : Ct w 1 0 0 mtX11_give [.ref 0, .int a0, .int a1] (go_mk tx μ) (fun r' M' => r' = some (.int r) ∧ M' = go_mk tx μ1) :=
  go_entry rfl (by decide) (Nat.le_of_ble_eq_true rfl) (cmX11_give w tx _ μ a0 a1 _ h ⟨rfl, rfl⟩)
def fX11_rests (μ : PM)  : Option (Int32) :=
  (fX4_countRather μ 8).bind fun q1 => some (q1)
set_option maxRecDepth 20000 in
set_option maxHeartbeats 4000000 in
theorem cmX11_rests (w : go_Wd) (tx : Nat) (Q : Option Value → go_M → Prop) (μ : PM)  (out : Int32) (h : fX11_rests μ = some out) (hK : Q (some (.int out)) (go_mk tx μ)) : Go w 4 0 0 mtX11_rests 0 [(0, .ref 0)] [] (go_mk tx μ) (go_Z w Q) := by
  unfold fX11_rests at h
  refine go_aload_n dX11_rests_0 0 rfl ?_
  refine pp_getR dX11_rests_1 ff_X11_71 (Or.inl ⟨_, rfl⟩) sh_0 rf_0_9 ?_
  refine go_aload_n dX11_rests_4 0 rfl ?_
  refine pp_getR dX11_rests_5 ff_X11_10 (Or.inl ⟨_, rfl⟩) sh_0 rf_0_0 ?_
  refine pp_getR dX11_rests_8 ff_X11_306 (Or.inr ⟨_, rfl⟩) go_isV_1.1 rf_1_6 ?_
  obtain ⟨q1, hq1, h⟩ := go_bind h
  refine pp_callV (as := [.ref 8]) (st := []) (rv := (some (.int q1))) (μ1 := μ) (st1 := [.int q1]) dX11_rests_11 ll_X11_313 sh_387 (by decide) rfl (ctX4_countRather sh_8 hq1) rfl (Nat.le_of_ble_eq_true rfl) (Nat.le_of_ble_eq_true rfl) (go_Z_up w _) rfl rfl ?_
  cases h
  exact go_iret dX11_rests_14 rfl hK
theorem ctX11_rests {w : go_Wd} {tx : Nat} {μ : PM}  {r : Int32}  (h : fX11_rests μ = some r) : Ct w 4 0 0 mtX11_rests [.ref 0] (go_mk tx μ) (fun r' M' => r' = some (.int r) ∧ M' = go_mk tx μ) :=
  go_entry rfl (by decide) (Nat.le_of_ble_eq_true rfl) (cmX11_rests w tx _ μ  _ h ⟨rfl, rfl⟩)
def lbX11_gladdest_14 (μ : PM) (a0 : Int32)  (v2 : Int32) (v3 : Int32) : Option ((Int32 × Int32) ⊕ (Int32)) :=
  (if (μ.1 12 5) ≤ v3 then some (.inr (v2)) else (if 6 ≤ v3 then some (.inr (v2)) else (fX4_isWanted μ a0 v3).bind fun q1 => (if q1 = 0 then some (.inl (v2, (v3 + 1))) else (fX4_likesMore μ 1 a0 v3 v2).bind fun q2 => (if q2 = 0 then some (.inl (v2, (v3 + 1))) else some (.inl (v3, (v3 + 1)))))))
def fX11_gladdest (μ : PM) (a0 : Int32) : Option (Int32) :=
  (if (fX11_isFamily μ a0) = 0 then some ((-1)) else ((lp (fun s => lbX11_gladdest_14 μ a0 s.1 s.2) go_fuel ((-1), 0)).bind fun ρ3 => some ρ3))
def ggX11_gladdest_14 (w : go_Wd) (tx : Nat) (Q : Option Value → go_M → Prop) (μ : PM) (a0 : Int32)  (s : Int32 × Int32) : Prop := Go w 3 0 0 mtX11_gladdest 14 [(0, .ref 0), (1, .int a0), (2, .int s.1), (3, .int s.2)] [] (go_mk tx μ) (go_Z w Q)
def eeX11_gladdest_14 (w : go_Wd) (tx : Nat) (Q : Option Value → go_M → Prop) (μ : PM) (a0 : Int32)  (y : Int32) : Prop := Q (some (.int y)) (go_mk tx μ)
set_option maxRecDepth 20000 in
set_option maxHeartbeats 4000000 in
theorem lqX11_gladdest_14 (w : go_Wd) (tx : Nat) (Q : Option Value → go_M → Prop) (μ : PM) (a0 : Int32)   (v2 : Int32) (v3 : Int32) (out : (Int32 × Int32) ⊕ (Int32)) (h : lbX11_gladdest_14 μ a0  v2 v3 = some out) (hK : go_out (ggX11_gladdest_14 w tx Q μ a0 ) (eeX11_gladdest_14 w tx Q μ a0 ) out) : ggX11_gladdest_14 w tx Q μ a0  (v2, v3) := by
  unfold lbX11_gladdest_14 at h
  show Go w 3 0 0 mtX11_gladdest 14 [(0, .ref 0), (1, .int a0), (2, .int v2), (3, .int v3)] [] (go_mk tx μ) (go_Z w Q)
  refine go_iload_n dX11_gladdest_14 3 rfl ?_
  refine go_aload_n dX11_gladdest_15 0 rfl ?_
  refine pp_getR dX11_gladdest_16 ff_X11_20 (Or.inl ⟨_, rfl⟩) sh_0 rf_0_1 ?_
  refine pp_getI dX11_gladdest_19 ff_X11_106 (by decide) go_isW_12.1 ?_
  refine go_icmp_ge 65 dX11_gladdest_22 (by decide) (fun hc => ?_) (fun hc => ?_)
  · have h := go_ifp hc h
    refine go_iload_n dX11_gladdest_65 2 rfl ?_
    cases h
    exact go_iret dX11_gladdest_66 rfl hK
  · have h := go_ifn hc h
    refine go_iload_n dX11_gladdest_25 3 rfl ?_
    refine go_bipush (v := 6) dX11_gladdest_26 (by decide) ?_
    refine go_icmp_ge 65 dX11_gladdest_28 (by decide) (fun hc => ?_) (fun hc => ?_)
    · have h := go_ifp hc h
      refine go_iload_n dX11_gladdest_65 2 rfl ?_
      cases h
      exact go_iret dX11_gladdest_66 rfl hK
    · have h := go_ifn hc h
      refine go_aload_n dX11_gladdest_31 0 rfl ?_
      refine pp_getR dX11_gladdest_32 ff_X11_71 (Or.inl ⟨_, rfl⟩) sh_0 rf_0_9 ?_
      refine go_iload_n dX11_gladdest_35 1 rfl ?_
      refine go_iload_n dX11_gladdest_36 3 rfl ?_
      obtain ⟨q1, hq1, h⟩ := go_bind h
      refine pp_callV (as := [.int a0, .int v3]) (st := []) (rv := (some (.int q1))) (μ1 := μ) (st1 := [.int q1]) dX11_gladdest_37 ll_X11_317 sh_387 (by decide) rfl (ctX4_isWanted  hq1) rfl (Nat.le_of_ble_eq_true rfl) (Nat.le_of_ble_eq_true rfl) (go_Z_up w _) rfl rfl ?_
      refine go_if_eq 59 dX11_gladdest_40 (by decide) (fun hc => ?_) (fun hc => ?_)
      · have h := go_ifp hc h
        refine go_iinc (v := (v3 + 1)) dX11_gladdest_59 3 rfl rfl (by decide) rfl ?_
        show Go w 3 0 0 mtX11_gladdest 62 [(3, .int (v3 + 1)), (0, .ref 0), (1, .int a0), (2, .int v2)] [] (go_mk tx μ) (go_Z w Q)
        refine go_goto 14 dX11_gladdest_62 (by decide) ?_
        cases h
        have hK : Go w 3 0 0 mtX11_gladdest 14 [(0, .ref 0), (1, .int a0), (2, .int v2), (3, .int (v3 + 1))] [] (go_mk tx μ) (go_Z w Q) := hK
        exact go_pick [1, 2, 3, 0] rfl hK
      · have h := go_ifn hc h
        refine go_aload_n dX11_gladdest_43 0 rfl ?_
        refine pp_getR dX11_gladdest_44 ff_X11_71 (Or.inl ⟨_, rfl⟩) sh_0 rf_0_9 ?_
        refine go_iconst (v := 1) dX11_gladdest_47 (by decide) ?_
        refine go_iload_n dX11_gladdest_48 1 rfl ?_
        refine go_iload_n dX11_gladdest_49 3 rfl ?_
        refine go_iload_n dX11_gladdest_50 2 rfl ?_
        obtain ⟨q2, hq2, h⟩ := go_bind h
        refine pp_callV (as := [.int 1, .int a0, .int v3, .int v2]) (st := []) (rv := (some (.int q2))) (μ1 := μ) (st1 := [.int q2]) dX11_gladdest_51 ll_X11_320 sh_387 (by decide) rfl (ctX4_likesMore  hq2) rfl (Nat.le_of_ble_eq_true rfl) (Nat.le_of_ble_eq_true rfl) (go_Z_up w _) rfl rfl ?_
        refine go_if_eq 59 dX11_gladdest_54 (by decide) (fun hc => ?_) (fun hc => ?_)
        · have h := go_ifp hc h
          refine go_iinc (v := (v3 + 1)) dX11_gladdest_59 3 rfl rfl (by decide) rfl ?_
          show Go w 3 0 0 mtX11_gladdest 62 [(3, .int (v3 + 1)), (0, .ref 0), (1, .int a0), (2, .int v2)] [] (go_mk tx μ) (go_Z w Q)
          refine go_goto 14 dX11_gladdest_62 (by decide) ?_
          cases h
          have hK : Go w 3 0 0 mtX11_gladdest 14 [(0, .ref 0), (1, .int a0), (2, .int v2), (3, .int (v3 + 1))] [] (go_mk tx μ) (go_Z w Q) := hK
          exact go_pick [1, 2, 3, 0] rfl hK
        · have h := go_ifn hc h
          refine go_iload_n dX11_gladdest_57 3 rfl ?_
          refine go_istore_n dX11_gladdest_58 (by decide) rfl ?_
          show Go w 3 0 0 mtX11_gladdest 59 [(2, .int v3), (0, .ref 0), (1, .int a0), (3, .int v3)] [] (go_mk tx μ) (go_Z w Q)
          refine go_iinc (v := (v3 + 1)) dX11_gladdest_59 3 rfl rfl (by decide) rfl ?_
          show Go w 3 0 0 mtX11_gladdest 62 [(3, .int (v3 + 1)), (2, .int v3), (0, .ref 0), (1, .int a0)] [] (go_mk tx μ) (go_Z w Q)
          refine go_goto 14 dX11_gladdest_62 (by decide) ?_
          cases h
          have hK : Go w 3 0 0 mtX11_gladdest 14 [(0, .ref 0), (1, .int a0), (2, .int v3), (3, .int (v3 + 1))] [] (go_mk tx μ) (go_Z w Q) := hK
          exact go_pick [2, 3, 1, 0] rfl hK
set_option maxRecDepth 20000 in
set_option maxHeartbeats 4000000 in
theorem cmX11_gladdest (w : go_Wd) (tx : Nat) (Q : Option Value → go_M → Prop) (μ : PM) (a0 : Int32) (out : Int32) (h : fX11_gladdest μ a0 = some out) (hK : Q (some (.int out)) (go_mk tx μ)) : Go w 3 0 0 mtX11_gladdest 0 [(0, .ref 0), (1, .int a0)] [] (go_mk tx μ) (go_Z w Q) := by
  unfold fX11_gladdest at h
  refine go_aload_n dX11_gladdest_0 0 rfl ?_
  refine go_iload_n dX11_gladdest_1 1 rfl ?_
  refine pp_callV (as := [.int a0]) (st := []) (rv := (some (.int (fX11_isFamily μ a0)))) (μ1 := μ) (st1 := [.int (fX11_isFamily μ a0)]) dX11_gladdest_2 ll_X11_192 sh_0 (by decide) rfl (ctX11_isFamily  rfl) rfl (Nat.le_of_ble_eq_true rfl) (Nat.le_of_ble_eq_true rfl) (go_Z_up w _) rfl rfl ?_
  refine go_if_ne 10 dX11_gladdest_5 (by decide) (fun hc => ?_) (fun hc => ?_)
  · have h := go_ifn hc h
    refine go_iconst (v := (-1)) dX11_gladdest_10 (by decide) ?_
    refine go_istore_n dX11_gladdest_11 (by decide) rfl ?_
    show Go w 3 0 0 mtX11_gladdest 12 [(2, .int (-1)), (0, .ref 0), (1, .int a0)] [] (go_mk tx μ) (go_Z w Q)
    refine go_iconst (v := 0) dX11_gladdest_12 (by decide) ?_
    refine go_istore_n dX11_gladdest_13 (by decide) rfl ?_
    show Go w 3 0 0 mtX11_gladdest 14 [(3, .int 0), (2, .int (-1)), (0, .ref 0), (1, .int a0)] [] (go_mk tx μ) (go_Z w Q)
    obtain ⟨ρ3, hρ3, h⟩ := go_bind h
    refine go_pick [2, 3, 1, 0] rfl ?_
    refine go_lp (G := ggX11_gladdest_14 w tx Q μ a0 ) (E := eeX11_gladdest_14 w tx Q μ a0 ) (fun s out h hK => lqX11_gladdest_14 w tx Q μ a0   s.1 s.2 out h hK) go_fuel ((-1), 0) ρ3 hρ3 ?_
    cases h
    exact hK
  · have h := go_ifp hc h
    refine go_iconst (v := (-1)) dX11_gladdest_8 (by decide) ?_
    cases h
    exact go_iret dX11_gladdest_9 rfl hK
theorem ctX11_gladdest {w : go_Wd} {tx : Nat} {μ : PM} {a0 : Int32} {r : Int32}  (h : fX11_gladdest μ a0 = some r) : Ct w 3 0 0 mtX11_gladdest [.ref 0, .int a0] (go_mk tx μ) (fun r' M' => r' = some (.int r) ∧ M' = go_mk tx μ) :=
  go_entry rfl (by decide) (Nat.le_of_ble_eq_true rfl) (cmX11_gladdest w tx _ μ a0 _ h ⟨rfl, rfl⟩)
def fX11_isWay (a0 : Int32) (a1 : Int32) : Int32 :=
  (if (fX11_isCell a0) = 0 then 0 else (if (fX11_isCell a1) = 0 then 0 else (if a1 < a0 then 0 else 1)))
set_option maxRecDepth 20000 in
set_option maxHeartbeats 4000000 in
theorem cmX11_isWay (w : go_Wd) (tx : Nat) (Q : Option Value → go_M → Prop) (μ : PM) (a0 : Int32) (a1 : Int32) (out : Int32) (h : fX11_isWay a0 a1 = out) (hK : Q (some (.int out)) (go_mk tx μ)) : Go w 1 0 0 mtX11_isWay 0 [(0, .int a0), (1, .int a1)] [] (go_mk tx μ) (go_Z w Q) := by
  unfold fX11_isWay at h
  refine go_iload_n dX11_isWay_0 0 rfl ?_
  refine pp_callS (as := [.int a0]) (st := []) (rv := (some (.int (fX11_isCell a0)))) (μ1 := μ) (st1 := [.int (fX11_isCell a0)]) dX11_isWay_1 ll_X11_124 (ctX11_isCell  rfl) rfl (Nat.le_of_ble_eq_true rfl) (Nat.le_of_ble_eq_true rfl) (go_Z_up w _) rfl rfl ?_
  refine go_if_eq 23 dX11_isWay_4 (by decide) (fun hc => ?_) (fun hc => ?_)
  · have h := go_ifp hc h
    refine go_iconst (v := 0) dX11_isWay_23 (by decide) ?_
    subst h
    exact go_zret dX11_isWay_24 rfl (Or.inl rfl) hK
  · have h := go_ifn hc h
    refine go_iload_n dX11_isWay_7 1 rfl ?_
    refine pp_callS (as := [.int a1]) (st := []) (rv := (some (.int (fX11_isCell a1)))) (μ1 := μ) (st1 := [.int (fX11_isCell a1)]) dX11_isWay_8 ll_X11_124 (ctX11_isCell  rfl) rfl (Nat.le_of_ble_eq_true rfl) (Nat.le_of_ble_eq_true rfl) (go_Z_up w _) rfl rfl ?_
    refine go_if_eq 23 dX11_isWay_11 (by decide) (fun hc => ?_) (fun hc => ?_)
    · have h := go_ifp hc h
      refine go_iconst (v := 0) dX11_isWay_23 (by decide) ?_
      subst h
      exact go_zret dX11_isWay_24 rfl (Or.inl rfl) hK
    · have h := go_ifn hc h
      refine go_iload_n dX11_isWay_14 0 rfl ?_
      refine go_iload_n dX11_isWay_15 1 rfl ?_
      refine go_icmp_gt 23 dX11_isWay_16 (by decide) (fun hc => ?_) (fun hc => ?_)
      · have h := go_ifp hc h
        refine go_iconst (v := 0) dX11_isWay_23 (by decide) ?_
        subst h
        exact go_zret dX11_isWay_24 rfl (Or.inl rfl) hK
      · have h := go_ifn hc h
        refine go_iconst (v := 1) dX11_isWay_19 (by decide) ?_
        refine go_goto 24 dX11_isWay_20 (by decide) ?_
        subst h
        exact go_zret dX11_isWay_24 rfl (Or.inr rfl) hK
theorem ctX11_isWay {w : go_Wd} {tx : Nat} {μ : PM} {a0 : Int32} {a1 : Int32} {r : Int32}  (h : fX11_isWay a0 a1 = r) : Ct w 1 0 0 mtX11_isWay [.int a0, .int a1] (go_mk tx μ) (fun r' M' => r' = some (.int r) ∧ M' = go_mk tx μ) :=
  go_entry rfl (by decide) (Nat.le_of_ble_eq_true rfl) (cmX11_isWay w tx _ μ a0 a1 _ h ⟨rfl, rfl⟩)
theorem bzX11_isWay {a0 : Int32} {a1 : Int32} {r : Int32} (h : fX11_isWay a0 a1 = r) : r = 0 ∨ r = 1 := by
  subst h
  show go_bi _
  unfold fX11_isWay
  repeat' first | exact bi_0 | exact bi_1 | exact bzX11_isCell rfl | with_reducible apply bi_ite
def lbX11_greatestShared_9 (a0 : Int64) (a1 : Int64)  (v4 : Int64) (v6 : Int64) (v8 : Int32) : Option ((Int64 × Int64 × Int32) ⊕ (Int64)) :=
  (if 100 ≤ v8 then some (.inr (v4)) else (if (lg_cmp v6 0) = 0 then some (.inr (v4)) else go_nzl v6 <| go_let ((jreml v4 v6)) fun x2 => some (.inl (v6, x2, (v8 + 1)))))
def fX11_greatestShared (a0 : Int64) (a1 : Int64) : Option (Int64) :=
  ((lp (fun s => lbX11_greatestShared_9 a0 a1 s.1 s.2.1 s.2.2) go_fuel (a0, a1, 0)).bind fun ρ3 => some ρ3)
def ggX11_greatestShared_9 (w : go_Wd) (tx : Nat) (Q : Option Value → go_M → Prop) (μ : PM) (a0 : Int64) (a1 : Int64)  (s : Int64 × Int64 × Int32) : Prop := Go w 0 0 0 mtX11_greatestShared 9 [(4, .long s.1), (6, .long s.2.1), (8, .int s.2.2)] [] (go_mk tx μ) (go_Z w Q)
def eeX11_greatestShared_9 (w : go_Wd) (tx : Nat) (Q : Option Value → go_M → Prop) (μ : PM) (a0 : Int64) (a1 : Int64)  (y : Int64) : Prop := Q (some (.long y)) (go_mk tx μ)
set_option maxRecDepth 20000 in
set_option maxHeartbeats 4000000 in
theorem lqX11_greatestShared_9 (w : go_Wd) (tx : Nat) (Q : Option Value → go_M → Prop) (μ : PM) (a0 : Int64) (a1 : Int64)   (v4 : Int64) (v6 : Int64) (v8 : Int32) (out : (Int64 × Int64 × Int32) ⊕ (Int64)) (h : lbX11_greatestShared_9 a0 a1  v4 v6 v8 = some out) (hK : go_out (ggX11_greatestShared_9 w tx Q μ a0 a1 ) (eeX11_greatestShared_9 w tx Q μ a0 a1 ) out) : ggX11_greatestShared_9 w tx Q μ a0 a1  (v4, v6, v8) := by
  unfold lbX11_greatestShared_9 at h
  show Go w 0 0 0 mtX11_greatestShared 9 [(4, .long v4), (6, .long v6), (8, .int v8)] [] (go_mk tx μ) (go_Z w Q)
  refine go_iload dX11_greatestShared_9 2 rfl ?_
  refine go_bipush (v := 100) dX11_greatestShared_11 (by decide) ?_
  refine go_icmp_ge 44 dX11_greatestShared_13 (by decide) (fun hc => ?_) (fun hc => ?_)
  · have h := go_ifp hc h
    refine go_lload dX11_greatestShared_44 0 rfl ?_
    cases h
    exact go_lret dX11_greatestShared_46 rfl hK
  · have h := go_ifn hc h
    refine go_lload dX11_greatestShared_16 1 rfl ?_
    refine go_lconst (v := 0) dX11_greatestShared_18 (by decide) ?_
    refine go_lcmp dX11_greatestShared_19 ?_
    refine go_if_eq 44 dX11_greatestShared_20 (by decide) (fun hc => ?_) (fun hc => ?_)
    · have h := go_ifp hc h
      refine go_lload dX11_greatestShared_44 0 rfl ?_
      cases h
      exact go_lret dX11_greatestShared_46 rfl hK
    · have h := go_ifn hc h
      refine go_lload dX11_greatestShared_23 0 rfl ?_
      refine go_lload dX11_greatestShared_25 1 rfl ?_
      obtain ⟨hz1, h⟩ := go_nzl_e h
      refine go_lremJ dX11_greatestShared_27 hz1 ?_
      obtain ⟨x2, hx2, h⟩ := go_let_e h
      refine go_topl hx2 ?_
      refine go_lstore dX11_greatestShared_28 (by decide) rfl ?_
      show Go w 0 0 0 mtX11_greatestShared 30 [(9, .long x2), (4, .long v4), (6, .long v6), (8, .int v8)] [] (go_mk tx μ) (go_Z w Q)
      refine go_lload dX11_greatestShared_30 2 rfl ?_
      refine go_lstore dX11_greatestShared_32 (by decide) rfl ?_
      show Go w 0 0 0 mtX11_greatestShared 34 [(4, .long v6), (9, .long x2), (6, .long v6), (8, .int v8)] [] (go_mk tx μ) (go_Z w Q)
      refine go_lload dX11_greatestShared_34 1 rfl ?_
      refine go_lstore dX11_greatestShared_36 (by decide) rfl ?_
      show Go w 0 0 0 mtX11_greatestShared 38 [(6, .long x2), (4, .long v6), (9, .long x2), (8, .int v8)] [] (go_mk tx μ) (go_Z w Q)
      refine go_iinc (v := (v8 + 1)) dX11_greatestShared_38 3 rfl rfl (by decide) rfl ?_
      show Go w 0 0 0 mtX11_greatestShared 41 [(8, .int (v8 + 1)), (6, .long x2), (4, .long v6), (9, .long x2)] [] (go_mk tx μ) (go_Z w Q)
      refine go_goto 9 dX11_greatestShared_41 (by decide) ?_
      cases h
      have hK : Go w 0 0 0 mtX11_greatestShared 9 [(4, .long v6), (6, .long x2), (8, .int (v8 + 1))] [] (go_mk tx μ) (go_Z w Q) := hK
      exact go_pick [2, 1, 0] rfl hK
set_option maxRecDepth 20000 in
set_option maxHeartbeats 4000000 in
theorem cmX11_greatestShared (w : go_Wd) (tx : Nat) (Q : Option Value → go_M → Prop) (μ : PM) (a0 : Int64) (a1 : Int64) (out : Int64) (h : fX11_greatestShared a0 a1 = some out) (hK : Q (some (.long out)) (go_mk tx μ)) : Go w 0 0 0 mtX11_greatestShared 0 [(0, .long a0), (2, .long a1)] [] (go_mk tx μ) (go_Z w Q) := by
  unfold fX11_greatestShared at h
  refine go_lload_n dX11_greatestShared_0 0 rfl ?_
  refine go_lstore dX11_greatestShared_1 (by decide) rfl ?_
  show Go w 0 0 0 mtX11_greatestShared 3 [(4, .long a0), (0, .long a0), (2, .long a1)] [] (go_mk tx μ) (go_Z w Q)
  refine go_lload_n dX11_greatestShared_3 2 rfl ?_
  refine go_lstore dX11_greatestShared_4 (by decide) rfl ?_
  show Go w 0 0 0 mtX11_greatestShared 6 [(6, .long a1), (4, .long a0), (0, .long a0), (2, .long a1)] [] (go_mk tx μ) (go_Z w Q)
  refine go_iconst (v := 0) dX11_greatestShared_6 (by decide) ?_
  refine go_istore dX11_greatestShared_7 (by decide) rfl ?_
  show Go w 0 0 0 mtX11_greatestShared 9 [(8, .int 0), (6, .long a1), (4, .long a0), (0, .long a0), (2, .long a1)] [] (go_mk tx μ) (go_Z w Q)
  obtain ⟨ρ3, hρ3, h⟩ := go_bind h
  refine go_pick [2, 1, 0] rfl ?_
  refine go_lp (G := ggX11_greatestShared_9 w tx Q μ a0 a1 ) (E := eeX11_greatestShared_9 w tx Q μ a0 a1 ) (fun s out h hK => lqX11_greatestShared_9 w tx Q μ a0 a1   s.1 s.2.1 s.2.2 out h hK) go_fuel (a0, a1, 0) ρ3 hρ3 ?_
  cases h
  exact hK
theorem ctX11_greatestShared {w : go_Wd} {tx : Nat} {μ : PM} {a0 : Int64} {a1 : Int64} {r : Int64}  (h : fX11_greatestShared a0 a1 = some r) : Ct w 0 0 0 mtX11_greatestShared [.long a0, .long a1] (go_mk tx μ) (fun r' M' => r' = some (.long r) ∧ M' = go_mk tx μ) :=
  go_entry rfl (by decide) (Nat.le_of_ble_eq_true rfl) (cmX11_greatestShared w tx _ μ a0 a1 _ h ⟨rfl, rfl⟩)