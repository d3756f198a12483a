def fX11_image (μ : PM)  : Option (Int32 × PM) :=
  (fX9_become μ 169 1).bind fun q1 => some (((q1.1 12 9), q1))
set_option maxRecDepth 20000 in
set_option maxHeartbeats 4000000 in
theorem cmX11_image (w : go_Wd) (tx : Nat) (Q : Option Value → go_M → Prop) (μ : PM)  (out : Int32 × PM) (h : fX11_image μ = some out) (hK : Q (some (.int out.1)) (go_mk tx out.2)) : Go w 4 0 0 mtX11_image 0 [(0, .ref 0)] [] (go_mk tx μ) (go_Z w Q) := by
  unfold fX11_image at h
  refine go_aload_n dX11_image_0 0 rfl ?_
  refine pp_getR dX11_image_1 ff_X11_21 (Or.inl ⟨_, rfl⟩) sh_0 rf_0_2 ?_
  refine go_aload_n dX11_image_4 0 rfl ?_
  refine pp_getR dX11_image_5 ff_X11_10 (Or.inl ⟨_, rfl⟩) sh_0 rf_0_0 ?_
  obtain ⟨q1, hq1, h⟩ := go_bind h
  refine pp_callV (as := [.ref 1]) (st := []) (rv := none) (μ1 := q1) (st1 := []) dX11_image_8 ll_X11_393 go_isV_169.1 (by decide) rfl (ctX9_become go_isV_169 go_isV_1 hq1) rfl (Nat.le_of_ble_eq_true rfl) (Nat.le_of_ble_eq_true rfl) (go_Z_up w _) rfl rfl ?_
  refine go_aload_n dX11_image_11 0 rfl ?_
  refine pp_getR dX11_image_12 ff_X11_20 (Or.inl ⟨_, rfl⟩) sh_0 rf_0_1 ?_
  refine pp_getI dX11_image_15 ff_X11_198 (by decide) go_isW_12.1 ?_
  cases h
  exact go_iret dX11_image_18 rfl hK
theorem ctX11_image {w : go_Wd} {tx : Nat} {μ : PM}  {r : Int32} {μ1 : PM}  (h : fX11_image μ = some (r, μ1)) : Ct w 4 0 0 mtX11_image [.ref 0] (go_mk tx μ) (fun r' M' => r' = some (.int r) ∧ M' = go_mk tx μ1) :=
  go_entry rfl (by decide) (Nat.le_of_ble_eq_true rfl) (cmX11_image w tx _ μ  _ h ⟨rfl, rfl⟩)
def fX11_back (μ : PM)  : Option (Int32 × PM) :=
  (fX9_become μ 1 169).bind fun q1 => some (((q1.1 12 9), q1))
set_option maxRecDepth 20000 in
set_option maxHeartbeats 4000000 in
theorem cmX11_back (w : go_Wd) (tx : Nat) (Q : Option Value → go_M → Prop) (μ : PM)  (out : Int32 × PM) (h : fX11_back μ = some out) (hK : Q (some (.int out.1)) (go_mk tx out.2)) : Go w 4 0 0 mtX11_back 0 [(0, .ref 0)] [] (go_mk tx μ) (go_Z w Q) := by
  unfold fX11_back at h
  refine go_aload_n dX11_back_0 0 rfl ?_
  refine pp_getR dX11_back_1 ff_X11_10 (Or.inl ⟨_, rfl⟩) sh_0 rf_0_0 ?_
  refine go_aload_n dX11_back_4 0 rfl ?_
  refine pp_getR dX11_back_5 ff_X11_21 (Or.inl ⟨_, rfl⟩) sh_0 rf_0_2 ?_
  obtain ⟨q1, hq1, h⟩ := go_bind h
  refine pp_callV (as := [.ref 169]) (st := []) (rv := none) (μ1 := q1) (st1 := []) dX11_back_8 ll_X11_393 go_isV_1.1 (by decide) rfl (ctX9_become go_isV_1 go_isV_169 hq1) rfl (Nat.le_of_ble_eq_true rfl) (Nat.le_of_ble_eq_true rfl) (go_Z_up w _) rfl rfl ?_
  refine go_aload_n dX11_back_11 0 rfl ?_
  refine pp_getR dX11_back_12 ff_X11_20 (Or.inl ⟨_, rfl⟩) sh_0 rf_0_1 ?_
  refine pp_getI dX11_back_15 ff_X11_198 (by decide) go_isW_12.1 ?_
  cases h
  exact go_iret dX11_back_18 rfl hK
theorem ctX11_back {w : go_Wd} {tx : Nat} {μ : PM}  {r : Int32} {μ1 : PM}  (h : fX11_back μ = some (r, μ1)) : Ct w 4 0 0 mtX11_back [.ref 0] (go_mk tx μ) (fun r' M' => r' = some (.int r) ∧ M' = go_mk tx μ1) :=
  go_entry rfl (by decide) (Nat.le_of_ble_eq_true rfl) (cmX11_back w tx _ μ  _ h ⟨rfl, rfl⟩)
def fX11_about (μ : PM) (a0 : Int32) : Int32 :=
  (if a0 = 0 then (μ.1 12 5) else (if a0 = 1 then (μ.1 12 6) else (if a0 = 2 then (μ.1 1 13) else (if a0 = 3 then (μ.1 1 14) else (if a0 = 4 then (μ.1 17 2) else (if a0 = 5 then (μ.1 1 16) else (if a0 = 6 then (μ.1 1 17) else (if a0 = 7 then (μ.1 0 13) else (-2)))))))))
set_option maxRecDepth 20000 in
set_option maxHeartbeats 4000000 in
theorem cmX11_about (w : go_Wd) (tx : Nat) (Q : Option Value → go_M → Prop) (μ : PM) (a0 : Int32) (out : Int32) (h : fX11_about μ a0 = out) (hK : Q (some (.int out)) (go_mk tx μ)) : Go w 0 0 0 mtX11_about 0 [(0, .ref 0), (1, .int a0)] [] (go_mk tx μ) (go_Z w Q) := by
  unfold fX11_about at h
  refine go_iload_n dX11_about_0 1 rfl ?_
  by_cases hc1 : a0 = 0
  · have h := go_ifp hc1 h
    refine go_tabIn (off := 47) 48 dX11_about_1 0 hc1 (by decide) (by decide) (by decide) (by decide) ?_
    refine go_aload_n dX11_about_48 0 rfl ?_
    refine pp_getR dX11_about_49 ff_X11_20 (Or.inl ⟨_, rfl⟩) sh_0 rf_0_1 ?_
    refine pp_getI dX11_about_52 ff_X11_106 (by decide) go_isW_12.1 ?_
    subst h
    exact go_iret dX11_about_55 rfl hK
  · have h := go_ifn hc1 h
    by_cases hc2 : a0 = 1
    · have h := go_ifp hc2 h
      refine go_tabIn (off := 55) 56 dX11_about_1 1 hc2 (by decide) (by decide) (by decide) (by decide) ?_
      refine go_aload_n dX11_about_56 0 rfl ?_
      refine pp_getR dX11_about_57 ff_X11_20 (Or.inl ⟨_, rfl⟩) sh_0 rf_0_1 ?_
      refine pp_getI dX11_about_60 ff_X11_121 (by decide) go_isW_12.1 ?_
      subst h
      exact go_iret dX11_about_63 rfl hK
    · have h := go_ifn hc2 h
      by_cases hc3 : a0 = 2
      · have h := go_ifp hc3 h
        refine go_tabIn (off := 63) 64 dX11_about_1 2 hc3 (by decide) (by decide) (by decide) (by decide) ?_
        refine go_aload_n dX11_about_64 0 rfl ?_
        refine pp_getR dX11_about_65 ff_X11_10 (Or.inl ⟨_, rfl⟩) sh_0 rf_0_0 ?_
        refine pp_getI dX11_about_68 ff_X11_147 (by decide) go_isV_1.1 ?_
        subst h
        exact go_iret dX11_about_71 rfl hK
      · have h := go_ifn hc3 h
        by_cases hc4 : a0 = 3
        · have h := go_ifp hc4 h
          refine go_tabIn (off := 71) 72 dX11_about_1 3 hc4 (by decide) (by decide) (by decide) (by decide) ?_
          refine go_aload_n dX11_about_72 0 rfl ?_
          refine pp_getR dX11_about_73 ff_X11_10 (Or.inl ⟨_, rfl⟩) sh_0 rf_0_0 ?_
          refine pp_getI dX11_about_76 ff_X11_169 (by decide) go_isV_1.1 ?_
          subst h
          exact go_iret dX11_about_79 rfl hK
        · have h := go_ifn hc4 h
          by_cases hc5 : a0 = 4
          · have h := go_ifp hc5 h
            refine go_tabIn (off := 79) 80 dX11_about_1 4 hc5 (by decide) (by decide) (by decide) (by decide) ?_
            refine go_aload_n dX11_about_80 0 rfl ?_
            refine pp_getR dX11_about_81 ff_X11_10 (Or.inl ⟨_, rfl⟩) sh_0 rf_0_0 ?_
            refine pp_getR dX11_about_84 ff_X11_175 (Or.inl ⟨_, rfl⟩) go_isV_1.1 rf_1_11 ?_
            refine pp_getI dX11_about_87 ff_X11_237 (by decide) go_isS_17.1 ?_
            subst h
            exact go_iret dX11_about_90 rfl hK
          · have h := go_ifn hc5 h
            by_cases hc6 : a0 = 5
            · have h := go_ifp hc6 h
              refine go_tabIn (off := 90) 91 dX11_about_1 5 hc6 (by decide) (by decide) (by decide) (by decide) ?_
              refine go_aload_n dX11_about_91 0 rfl ?_
              refine pp_getR dX11_about_92 ff_X11_10 (Or.inl ⟨_, rfl⟩) sh_0 rf_0_0 ?_
              refine pp_getI dX11_about_95 ff_X11_347 (by decide) go_isV_1.1 ?_
              subst h
              exact go_iret dX11_about_98 rfl hK
            · have h := go_ifn hc6 h
              by_cases hc7 : a0 = 6
              · have h := go_ifp hc7 h
                refine go_tabIn (off := 98) 99 dX11_about_1 6 hc7 (by decide) (by decide) (by decide) (by decide) ?_
                refine go_aload_n dX11_about_99 0 rfl ?_
                refine pp_getR dX11_about_100 ff_X11_10 (Or.inl ⟨_, rfl⟩) sh_0 rf_0_0 ?_
                refine pp_getI dX11_about_103 ff_X11_375 (by decide) go_isV_1.1 ?_
                subst h
                exact go_iret dX11_about_106 rfl hK
              · have h := go_ifn hc7 h
                by_cases hc8 : a0 = 7
                · have h := go_ifp hc8 h
                  refine go_tabIn (off := 106) 107 dX11_about_1 7 hc8 (by decide) (by decide) (by decide) (by decide) ?_
                  refine go_aload_n dX11_about_107 0 rfl ?_
                  refine pp_getI dX11_about_108 ff_X11_140 (by decide) sh_0 ?_
                  subst h
                  exact go_iret dX11_about_111 rfl hK
                · have h := go_ifn hc8 h
                  refine go_tabOut 112 dX11_about_1 (by have g0 := go_ne_i (n := 0) hc1 (by decide); have g1 := go_ne_i (n := 1) hc2 (by decide); have g2 := go_ne_i (n := 2) hc3 (by decide); have g3 := go_ne_i (n := 3) hc4 (by decide); have g4 := go_ne_i (n := 4) hc5 (by decide); have g5 := go_ne_i (n := 5) hc6 (by decide); have g6 := go_ne_i (n := 6) hc7 (by decide); have g7 := go_ne_i (n := 7) hc8 (by decide); omega) (by decide) ?_
                  refine go_bipush (v := (-2)) dX11_about_112 (by decide) ?_
                  subst h
                  exact go_iret dX11_about_114 rfl hK
theorem ctX11_about {w : go_Wd} {tx : Nat} {μ : PM} {a0 : Int32} {r : Int32}  (h : fX11_about μ a0 = r) : Ct w 0 0 0 mtX11_about [.ref 0, .int a0] (go_mk tx μ) (fun r' M' => r' = some (.int r) ∧ M' = go_mk tx μ) :=
  go_entry rfl (by decide) (Nat.le_of_ble_eq_true rfl) (cmX11_about w tx _ μ a0 _ h ⟨rfl, rfl⟩)
def lbX12_copy_2 (a0 : Nat) (a1 : Nat)  (v2 : Int32) (μ : PM) : Option ((Int32 × PM) ⊕ (PM)) :=
  (if 1792 ≤ v2 then some (.inr (μ)) else go_chk v2 1792 <| go_chk v2 1792 <| go_let (pm_wi μ a1 v2.toNatClampNeg (μ.1 a0 v2.toNatClampNeg)) fun μ2 => some (.inl ((v2 + 1), μ2)))
def fX12_copy (μ : PM) (a0 : Nat) (a1 : Nat) : Option (PM) :=
  ((lp (fun s => lbX12_copy_2 a0 a1 s.1 s.2) go_fuel (0, μ)).bind fun ρ4 => some ρ4)
def ggX12_copy_2 (w : go_Wd) (tx : Nat) (Q : Option Value → go_M → Prop) (a0 : Nat) (a1 : Nat)  (s : Int32 × PM) : Prop := Go w 0 0 0 mtX12_copy 2 [(0, .ref a0), (1, .ref a1), (2, .int s.1)] [] (go_mk tx s.2) (go_Z w Q)
def eeX12_copy_2 (w : go_Wd) (tx : Nat) (Q : Option Value → go_M → Prop) (a0 : Nat) (a1 : Nat)  (y : PM) : Prop := Q none (go_mk tx y)
set_option maxRecDepth 20000 in
set_option maxHeartbeats 4000000 in
theorem lqX12_copy_2 (w : go_Wd) (tx : Nat) (Q : Option Value → go_M → Prop) (a0 : Nat) (a1 : Nat) (ha0 : go_SH[a0]? = some (100, 1792)) (ha1 : go_SH[a1]? = some (100, 1792))   (v2 : Int32) (μ : PM) (out : (Int32 × PM) ⊕ (PM)) (h : lbX12_copy_2 a0 a1  v2 μ = some out) (hK : go_out (ggX12_copy_2 w tx Q a0 a1 ) (eeX12_copy_2 w tx Q a0 a1 ) out) : ggX12_copy_2 w tx Q a0 a1  (v2, μ) := by
  unfold lbX12_copy_2 at h
  show Go w 0 0 0 mtX12_copy 2 [(0, .ref a0), (1, .ref a1), (2, .int v2)] [] (go_mk tx μ) (go_Z w Q)
  refine go_iload_n dX12_copy_2 2 rfl ?_
  refine go_sipush (v := 1792) dX12_copy_3 (by decide) ?_
  refine go_icmp_ge 21 dX12_copy_6 (by decide) (fun hc => ?_) (fun hc => ?_)
  · have h := go_ifp hc h
    cases h
    exact go_vret dX12_copy_21 rfl hK
  · have h := go_ifn hc h
    refine go_aload_n dX12_copy_9 1 rfl ?_
    refine go_iload_n dX12_copy_10 2 rfl ?_
    refine go_aload_n dX12_copy_11 0 rfl ?_
    refine go_iload_n dX12_copy_12 2 rfl ?_
    obtain ⟨hz1, h⟩ := go_chk_e h
    refine pp_ild dX12_copy_13 ha0 hz1 ?_
    obtain ⟨hz3, h⟩ := go_chk_e h
    obtain ⟨μ2, hμ2, h⟩ := go_let_e h
    refine pp_ist dX12_copy_14 ha1 hz3 hμ2 ?_
    refine go_iinc (v := (v2 + 1)) dX12_copy_15 2 rfl rfl (by decide) rfl ?_
    show Go w 0 0 0 mtX12_copy 18 [(2, .int (v2 + 1)), (0, .ref a0), (1, .ref a1)] [] (go_mk tx μ2) (go_Z w Q)
    refine go_goto 2 dX12_copy_18 (by decide) ?_
    cases h
    have hK : Go w 0 0 0 mtX12_copy 2 [(0, .ref a0), (1, .ref a1), (2, .int (v2 + 1))] [] (go_mk tx μ2) (go_Z w Q) := hK
    exact go_pick [1, 2, 0] rfl hK
set_option maxRecDepth 20000 in
set_option maxHeartbeats 4000000 in
theorem cmX12_copy (w : go_Wd) (tx : Nat) (Q : Option Value → go_M → Prop) (μ : PM) (a0 : Nat) (a1 : Nat) (ha0 : go_SH[a0]? = some (100, 1792)) (ha1 : go_SH[a1]? = some (100, 1792)) (out : PM) (h : fX12_copy μ a0 a1 = some out) (hK : Q none (go_mk tx out)) : Go w 0 0 0 mtX12_copy 0 [(0, .ref a0), (1, .ref a1)] [] (go_mk tx μ) (go_Z w Q) := by
  unfold fX12_copy at h
  refine go_iconst (v := 0) dX12_copy_0 (by decide) ?_
  refine go_istore_n dX12_copy_1 (by decide) rfl ?_
  show Go w 0 0 0 mtX12_copy 2 [(2, .int 0), (0, .ref a0), (1, .ref a1)] [] (go_mk tx μ) (go_Z w Q)
  obtain ⟨ρ4, hρ4, h⟩ := go_bind h
  refine go_pick [1, 2, 0] rfl ?_
  refine go_lp (G := ggX12_copy_2 w tx Q a0 a1 ) (E := eeX12_copy_2 w tx Q a0 a1 ) (fun s out h hK => lqX12_copy_2 w tx Q a0 a1 ha0 ha1   s.1 s.2 out h hK) go_fuel (0, μ) ρ4 hρ4 ?_
  cases h
  exact hK
theorem ctX12_copy {w : go_Wd} {tx : Nat} {μ : PM} {a0 : Nat} {a1 : Nat} {μ1 : PM} (ha0 : go_SH[a0]? = some (100, 1792)) (ha1 : go_SH[a1]? = some (100, 1792)) (h : fX12_copy μ a0 a1 = some μ1) : Ct w 0 0 0 mtX12_copy [.ref a0, .ref a1] (go_mk tx μ) (fun r' M' => r' = none ∧ M' = go_mk tx μ1) :=
  go_entry rfl (by decide) (Nat.le_of_ble_eq_true rfl) (cmX12_copy w tx _ μ a0 a1 ha0 ha1 _ h ⟨rfl, rfl⟩)
def fX12_isIn (a0 : Int32) (a1 : Int32) (a2 : Int32) : Int32 :=
  (if a0 < a1 then 0 else (if a2 < a0 then 0 else 1))
set_option maxRecDepth 20000 in
set_option maxHeartbeats 4000000 in
theorem cmX12_isIn (w : go_Wd) (tx : Nat) (Q : Option Value → go_M → Prop) (μ : PM) (a0 : Int32) (a1 : Int32) (a2 : Int32) (out : Int32) (h : fX12_isIn a0 a1 a2 = out) (hK : Q (some (.int out)) (go_mk tx μ)) : Go w 0 0 0 mtX12_isIn 0 [(0, .int a0), (1, .int a1), (2, .int a2)] [] (go_mk tx μ) (go_Z w Q) := by
  unfold fX12_isIn at h
  refine go_iload_n dX12_isIn_0 0 rfl ?_
  refine go_iload_n dX12_isIn_1 1 rfl ?_
  refine go_icmp_lt 14 dX12_isIn_2 (by decide) (fun hc => ?_) (fun hc => ?_)
  · have h := go_ifp hc h
    refine go_iconst (v := 0) dX12_isIn_14 (by decide) ?_
    subst h
    exact go_zret dX12_isIn_15 rfl (Or.inl rfl) hK
  · have h := go_ifn hc h
    refine go_iload_n dX12_isIn_5 0 rfl ?_
    refine go_iload_n dX12_isIn_6 2 rfl ?_
    refine go_icmp_gt 14 dX12_isIn_7 (by decide) (fun hc => ?_) (fun hc => ?_)
    · have h := go_ifp hc h
      refine go_iconst (v := 0) dX12_isIn_14 (by decide) ?_
      subst h
      exact go_zret dX12_isIn_15 rfl (Or.inl rfl) hK
    · have h := go_ifn hc h
      refine go_iconst (v := 1) dX12_isIn_10 (by decide) ?_
      refine go_goto 15 dX12_isIn_11 (by decide) ?_
      subst h
      exact go_zret dX12_isIn_15 rfl (Or.inr rfl) hK
theorem ctX12_isIn {w : go_Wd} {tx : Nat} {μ : PM} {a0 : Int32} {a1 : Int32} {a2 : Int32} {r : Int32}  (h : fX12_isIn a0 a1 a2 = r) : Ct w 0 0 0 mtX12_isIn [.int a0, .int a1, .int a2] (go_mk tx μ) (fun r' M' => r' = some (.int r) ∧ M' = go_mk tx μ) :=
  go_entry rfl (by decide) (Nat.le_of_ble_eq_true rfl) (cmX12_isIn w tx _ μ a0 a1 a2 _ h ⟨rfl, rfl⟩)
theorem bzX12_isIn {a0 : Int32} {a1 : Int32} {a2 : Int32} {r : Int32} (h : fX12_isIn a0 a1 a2 = r) : r = 0 ∨ r = 1 := by
  subst h
  show go_bi _
  unfold fX12_isIn
  repeat' first | exact bi_0 | exact bi_1 | with_reducible apply bi_ite
def fX12_cut (a0 : Int64) (a1 : Int32) (a2 : Int32) : Int32 :=
  (if 0 ≤ (lg_cmp a0 a1.toInt64) then (if (lg_cmp a0 a2.toInt64) ≤ 0 then a0.toInt32 else a2) else a1)
set_option maxRecDepth 20000 in
set_option maxHeartbeats 4000000 in
theorem cmX12_cut (w : go_Wd) (tx : Nat) (Q : Option Value → go_M → Prop) (μ : PM) (a0 : Int64) (a1 : Int32) (a2 : Int32) (out : Int32) (h : fX12_cut a0 a1 a2 = out) (hK : Q (some (.int out)) (go_mk tx μ)) : Go w 0 0 0 mtX12_cut 0 [(0, .long a0), (2, .int a1), (3, .int a2)] [] (go_mk tx μ) (go_Z w Q) := by
  unfold fX12_cut at h
  refine go_lload_n dX12_cut_0 0 rfl ?_
  refine go_iload_n dX12_cut_1 1 rfl ?_
  refine go_i2l dX12_cut_2 ?_
  refine go_lcmp dX12_cut_3 ?_
  refine go_if_ge 11 dX12_cut_4 (by decide) (fun hc => ?_) (fun hc => ?_)
  · have h := go_ifp hc h
    refine go_lload_n dX12_cut_11 0 rfl ?_
    refine go_iload_n dX12_cut_12 2 rfl ?_
    refine go_i2l dX12_cut_13 ?_
    refine go_lcmp dX12_cut_14 ?_
    refine go_if_le 22 dX12_cut_15 (by decide) (fun hc => ?_) (fun hc => ?_)
    · have h := go_ifp hc h
      refine go_lload_n dX12_cut_22 0 rfl ?_
      refine go_l2i dX12_cut_23 ?_
      subst h
      exact go_iret dX12_cut_24 rfl hK
    · have h := go_ifn hc h
      refine go_iload_n dX12_cut_18 2 rfl ?_
      refine go_goto 24 dX12_cut_19 (by decide) ?_
      subst h
      exact go_iret dX12_cut_24 rfl hK
  · have h := go_ifn hc h
    refine go_iload_n dX12_cut_7 1 rfl ?_
    refine go_goto 24 dX12_cut_8 (by decide) ?_
    subst h
    exact go_iret dX12_cut_24 rfl hK
theorem ctX12_cut {w : go_Wd} {tx : Nat} {μ : PM} {a0 : Int64} {a1 : Int32} {a2 : Int32} {r : Int32}  (h : fX12_cut a0 a1 a2 = r) : Ct w 0 0 0 mtX12_cut [.long a0, .int a1, .int a2] (go_mk tx μ) (fun r' M' => r' = some (.int r) ∧ M' = go_mk tx μ) :=
  go_entry rfl (by decide) (Nat.le_of_ble_eq_true rfl) (cmX12_cut w tx _ μ a0 a1 a2 _ h ⟨rfl, rfl⟩)
def fX12_has (a0 : Int32) (a1 : Int32) : Int32 :=
  (if ((a0 >>> (a1 &&& 31)) &&& 1) = 1 then 1 else 0)
set_option maxRecDepth 20000 in
set_option maxHeartbeats 4000000 in
theorem cmX12_has (w : go_Wd) (tx : Nat) (Q : Option Value → go_M → Prop) (μ : PM) (a0 : Int32) (a1 : Int32) (out : Int32) (h : fX12_has a0 a1 = out) (hK : Q (some (.int out)) (go_mk tx μ)) : Go w 0 0 0 mtX12_has 0 [(0, .int a0), (1, .int a1)] [] (go_mk tx μ) (go_Z w Q) := by
  unfold fX12_has at h
  refine go_iload_n dX12_has_0 0 rfl ?_
  refine go_iload_n dX12_has_1 1 rfl ?_
  refine go_ishr dX12_has_2 ?_
  refine go_iconst (v := 1) dX12_has_3 (by decide) ?_
  refine go_iand dX12_has_4 ?_
  refine go_iconst (v := 1) dX12_has_5 (by decide) ?_
  refine go_icmp_ne 13 dX12_has_6 (by decide) (fun hc => ?_) (fun hc => ?_)
  · have h := go_ifn hc h
    refine go_iconst (v := 0) dX12_has_13 (by decide) ?_
    subst h
    exact go_zret dX12_has_14 rfl (Or.inl rfl) hK
  · have h := go_ifp hc h
    refine go_iconst (v := 1) dX12_has_9 (by decide) ?_
    refine go_goto 14 dX12_has_10 (by decide) ?_
    subst h
    exact go_zret dX12_has_14 rfl (Or.inr rfl) hK
theorem ctX12_has {w : go_Wd} {tx : Nat} {μ : PM} {a0 : Int32} {a1 : Int32} {r : Int32}  (h : fX12_has a0 a1 = r) : Ct w 0 0 0 mtX12_has [.int a0, .int a1] (go_mk tx μ) (fun r' M' => r' = some (.int r) ∧ M' = go_mk tx μ) :=
  go_entry rfl (by decide) (Nat.le_of_ble_eq_true rfl) (cmX12_has w tx _ μ a0 a1 _ h ⟨rfl, rfl⟩)
theorem bzX12_has {a0 : Int32} {a1 : Int32} {r : Int32} (h : fX12_has a0 a1 = r) : r = 0 ∨ r = 1 := by
  subst h
  show go_bi _
  unfold fX12_has
  repeat' first | exact bi_0 | exact bi_1 | with_reducible apply bi_ite
def lbX12_bits_4 (a0 : Int32)  (v1 : Int32) (v2 : Int32) : Option ((Int32 × Int32) ⊕ (Int32)) :=
  (if v2 = 0 then some (.inr (v1)) else go_let ((v2 &&& (v2 - 1))) fun x1 => some (.inl ((v1 + 1), x1)))
def fX12_bits (a0 : Int32) : Option (Int32) :=
  ((lp (fun s => lbX12_bits_4 a0 s.1 s.2) go_fuel (0, a0)).bind fun ρ2 => some ρ2)
def ggX12_bits_4 (w : go_Wd) (tx : Nat) (Q : Option Value → go_M → Prop) (μ : PM) (a0 : Int32)  (s : Int32 × Int32) : Prop := Go w 0 0 0 mtX12_bits 4 [(1, .int s.1), (2, .int s.2)] [] (go_mk tx μ) (go_Z w Q)
def eeX12_bits_4 (w : go_Wd) (tx : Nat) (Q : Option Value → go_M → Prop) (μ : PM) (a0 : Int32)  (y : Int32) : Prop := Q (some (.int y)) (go_mk tx μ)
set_option maxRecDepth 20000 in
set_option maxHeartbeats 4000000 in
theorem lqX12_bits_4 (w : go_Wd) (tx : Nat) (Q : Option Value → go_M → Prop) (μ : PM) (a0 : Int32)   (v1 : Int32) (v2 : Int32) (out : (Int32 × Int32) ⊕ (Int32)) (h : lbX12_bits_4 a0  v1 v2 = some out) (hK : go_out (ggX12_bits_4 w tx Q μ a0 ) (eeX12_bits_4 w tx Q μ a0 ) out) : ggX12_bits_4 w tx Q μ a0  (v1, v2) := by
  unfold lbX12_bits_4 at h
  show Go w 0 0 0 mtX12_bits 4 [(1, .int v1), (2, .int v2)] [] (go_mk tx μ) (go_Z w Q)
  refine go_iload_n dX12_bits_4 1 rfl ?_
  refine go_if_eq 20 dX12_bits_5 (by decide) (fun hc => ?_) (fun hc => ?_)
  · have h := go_ifp hc h
    refine go_iload_n dX12_bits_20 0 rfl ?_
    cases h
    exact go_iret dX12_bits_21 rfl hK
  · have h := go_ifn hc h
    refine go_iinc (v := (v1 + 1)) dX12_bits_8 0 rfl rfl (by decide) rfl ?_
    show Go w 0 0 0 mtX12_bits 11 [(1, .int (v1 + 1)), (2, .int v2)] [] (go_mk tx μ) (go_Z w Q)
    refine go_iload_n dX12_bits_11 1 rfl ?_
    refine go_iload_n dX12_bits_12 1 rfl ?_
    refine go_iconst (v := 1) dX12_bits_13 (by decide) ?_
    refine go_isub dX12_bits_14 ?_
    refine go_iand dX12_bits_15 ?_
    obtain ⟨x1, hx1, h⟩ := go_let_e h
    refine go_top hx1 ?_
    refine go_istore_n dX12_bits_16 (by decide) rfl ?_
    show Go w 0 0 0 mtX12_bits 17 [(2, .int x1), (1, .int (v1 + 1))] [] (go_mk tx μ) (go_Z w Q)
    refine go_goto 4 dX12_bits_17 (by decide) ?_
    cases h
    have hK : Go w 0 0 0 mtX12_bits 4 [(1, .int (v1 + 1)), (2, .int x1)] [] (go_mk tx μ) (go_Z w Q) := hK
    exact go_pick [1, 0] rfl hK
set_option maxRecDepth 20000 in
set_option maxHeartbeats 4000000 in
theorem cmX12_bits (w : go_Wd) (tx : Nat) (Q : Option Value → go_M → Prop) (μ : PM) (a0 : Int32) (out : Int32) (h : fX12_bits a0 = some out) (hK : Q (some (.int out)) (go_mk tx μ)) : Go w 0 0 0 mtX12_bits 0 [(0, .int a0)] [] (go_mk tx μ) (go_Z w Q) := by
  unfold fX12_bits at h
  refine go_iconst (v := 0) dX12_bits_0 (by decide) ?_
  refine go_istore_n dX12_bits_1 (by decide) rfl ?_
  show Go w 0 0 0 mtX12_bits 2 [(1, .int 0), (0, .int a0)] [] (go_mk tx μ) (go_Z w Q)
  refine go_iload_n dX12_bits_2 1 rfl ?_
  refine go_istore_n dX12_bits_3 (by decide) rfl ?_
  show Go w 0 0 0 mtX12_bits 4 [(2, .int a0), (1, .int 0), (0, .int a0)] [] (go_mk tx μ) (go_Z w Q)
  obtain ⟨ρ2, hρ2, h⟩ := go_bind h
  refine go_pick [1, 0] rfl ?_
  refine go_lp (G := ggX12_bits_4 w tx Q μ a0 ) (E := eeX12_bits_4 w tx Q μ a0 ) (fun s out h hK => lqX12_bits_4 w tx Q μ a0   s.1 s.2 out h hK) go_fuel (0, a0) ρ2 hρ2 ?_
  cases h
  exact hK
theorem ctX12_bits {w : go_Wd} {tx : Nat} {μ : PM} {a0 : Int32} {r : Int32}  (h : fX12_bits a0 = some r) : Ct w 0 0 0 mtX12_bits [.int a0] (go_mk tx μ) (fun r' M' => r' = some (.int r) ∧ M' = go_mk tx μ) :=
  go_entry rfl (by decide) (Nat.le_of_ble_eq_true rfl) (cmX12_bits w tx _ μ a0 _ h ⟨rfl, rfl⟩)
def fX12_isCell (a0 : Int32) : Int32 :=
  (fX12_isIn a0 0 9)
set_option maxRecDepth 20000 in
set_option maxHeartbeats 4000000 in
theorem cmX12_isCell (w : go_Wd) (tx : Nat) (Q : Option Value → go_M → Prop) (μ : PM) (a0 : Int32) (out : Int32) (h : fX12_isCell a0 = out) (hK : Q (some (.int out)) (go_mk tx μ)) : Go w 1 0 0 mtX12_isCell 0 [(0, .int a0)] [] (go_mk tx μ) (go_Z w Q) := by
  unfold fX12_isCell at h
  refine go_iload_n dX12_isCell_0 0 rfl ?_
  refine go_iconst (v := 0) dX12_isCell_1 (by decide) ?_
  refine go_bipush (v := 9) dX12_isCell_2 (by decide) ?_
  refine pp_callS (as := [.int a0, .int 0, .int 9]) (st := []) (rv := (some (.int (fX12_isIn a0 0 9)))) (μ1 := μ) (st1 := [.int (fX12_isIn a0 0 9)]) dX12_isCell_4 ll_X12_63 (ctX12_isIn  rfl) rfl (Nat.le_of_ble_eq_true rfl) (Nat.le_of_ble_eq_true rfl) (go_Z_up w _) rfl rfl ?_
  subst h
  exact go_zret dX12_isCell_7 rfl (bzX12_isIn rfl) hK
theorem ctX12_isCell {w : go_Wd} {tx : Nat} {μ : PM} {a0 : Int32} {r : Int32}  (h : fX12_isCell a0 = r) : Ct w 1 0 0 mtX12_isCell [.int a0] (go_mk tx μ) (fun r' M' => r' = some (.int r) ∧ M' = go_mk tx μ) :=
  go_entry rfl (by decide) (Nat.le_of_ble_eq_true rfl) (cmX12_isCell w tx _ μ a0 _ h ⟨rfl, rfl⟩)
theorem bzX12_isCell {a0 : Int32} {r : Int32} (h : fX12_isCell a0 = r) : r = 0 ∨ r = 1 := by
  subst h
  show go_bi _
  unfold fX12_isCell
  repeat' first | exact bi_0 | exact bi_1 | exact bzX12_isIn rfl | with_reducible apply bi_ite
def fX12_isName (μ : PM) (a0 : Int32) : Int32 :=
  (fX12_isIn a0 0 ((μ.1 402 0) - 1))
set_option maxRecDepth 20000 in
set_option maxHeartbeats 4000000 in
theorem cmX12_isName (w : go_Wd) (tx : Nat) (Q : Option Value → go_M → Prop) (μ : PM) (a0 : Int32) (out : Int32) (h : fX12_isName μ a0 = out) (hK : Q (some (.int out)) (go_mk tx μ)) : Go w 1 0 0 mtX12_isName 0 [(0, .ref 401), (1, .int a0)] [] (go_mk tx μ) (go_Z w Q) := by
  unfold fX12_isName at h
  refine go_iload_n dX12_isName_0 1 rfl ?_
  refine go_iconst (v := 0) dX12_isName_1 (by decide) ?_
  refine go_aload_n dX12_isName_2 0 rfl ?_
  refine pp_getR dX12_isName_3 ff_X12_7 (Or.inr ⟨_, rfl⟩) sh_401 rf_401_0 ?_
  refine go_iconst (v := 0) dX12_isName_6 (by decide) ?_
  refine pp_ildc (q := 0) dX12_isName_7 sh_402 (by decide) ?_
  refine go_iconst (v := 1) dX12_isName_8 (by decide) ?_
  refine go_isub dX12_isName_9 ?_
  refine pp_callS (as := [.int a0, .int 0, .int ((μ.1 402 0) - 1)]) (st := []) (rv := (some (.int (fX12_isIn a0 0 ((μ.1 402 0) - 1))))) (μ1 := μ) (st1 := [.int (fX12_isIn a0 0 ((μ.1 402 0) - 1))]) dX12_isName_10 ll_X12_63 (ctX12_isIn  rfl) rfl (Nat.le_of_ble_eq_true rfl) (Nat.le_of_ble_eq_true rfl) (go_Z_up w _) rfl rfl ?_
  subst h
  exact go_zret dX12_isName_13 rfl (bzX12_isIn rfl) hK
theorem ctX12_isName {w : go_Wd} {tx : Nat} {μ : PM} {a0 : Int32} {r : Int32}  (h : fX12_isName μ a0 = r) : Ct w 1 0 0 mtX12_isName [.ref 401, .int a0] (go_mk tx μ) (fun r' M' => r' = some (.int r) ∧ M' = go_mk tx μ) :=
  go_entry rfl (by decide) (Nat.le_of_ble_eq_true rfl) (cmX12_isName w tx _ μ a0 _ h ⟨rfl, rfl⟩)
theorem bzX12_isName {μ : PM} {a0 : Int32} {r : Int32} (h : fX12_isName μ a0 = r) : r = 0 ∨ r = 1 := by
  subst h
  show go_bi _
  unfold fX12_isName
  repeat' first | exact bi_0 | exact bi_1 | exact bzX12_isIn rfl | with_reducible apply bi_ite
def fX12_isFamily (μ : PM) (a0 : Int32) : Int32 :=
  (fX12_isIn a0 0 ((μ.1 402 1) - 1))
set_option maxRecDepth 20000 in
set_option maxHeartbeats 4000000 in
theorem cmX12_isFamily (w : go_Wd) (tx : Nat) (Q : Option Value → go_M → Prop) (μ : PM) (a0 : Int32) (out : Int32) (h : fX12_isFamily μ a0 = out) (hK : Q (some (.int out)) (go_mk tx μ)) : Go w 1 0 0 mtX12_isFamily 0 [(0, .ref 401), (1, .int a0)] [] (go_mk tx μ) (go_Z w Q) := by
  unfold fX12_isFamily at h
  refine go_iload_n dX12_isFamily_0 1 rfl ?_
  refine go_iconst (v := 0) dX12_isFamily_1 (by decide) ?_
  refine go_aload_n dX12_isFamily_2 0 rfl ?_
  refine pp_getR dX12_isFamily_3 ff_X12_7 (Or.inr ⟨_, rfl⟩) sh_401 rf_401_0 ?_
  refine go_iconst (v := 1) dX12_isFamily_6 (by decide) ?_
  refine pp_ildc (q := 1) dX12_isFamily_7 sh_402 (by decide) ?_
  refine go_iconst (v := 1) dX12_isFamily_8 (by decide) ?_
  refine go_isub dX12_isFamily_9 ?_
  refine pp_callS (as := [.int a0, .int 0, .int ((μ.1 402 1) - 1)]) (st := []) (rv := (some (.int (fX12_isIn a0 0 ((μ.1 402 1) - 1))))) (μ1 := μ) (st1 := [.int (fX12_isIn a0 0 ((μ.1 402 1) - 1))]) dX12_isFamily_10 ll_X12_63 (ctX12_isIn  rfl) rfl (Nat.le_of_ble_eq_true rfl) (Nat.le_of_ble_eq_true rfl) (go_Z_up w _) rfl rfl ?_
  subst h
  exact go_zret dX12_isFamily_13 rfl (bzX12_isIn rfl) hK
theorem ctX12_isFamily {w : go_Wd} {tx : Nat} {μ : PM} {a0 : Int32} {r : Int32}  (h : fX12_isFamily μ a0 = r) : Ct w 1 0 0 mtX12_isFamily [.ref 401, .int a0] (go_mk tx μ) (fun r' M' => r' = some (.int r) ∧ M' = go_mk tx μ) :=
  go_entry rfl (by decide) (Nat.le_of_ble_eq_true rfl) (cmX12_isFamily w tx _ μ a0 _ h ⟨rfl, rfl⟩)
theorem bzX12_isFamily {μ : PM} {a0 : Int32} {r : Int32} (h : fX12_isFamily μ a0 = r) : r = 0 ∨ r = 1 := by
  subst h
  show go_bi _
  unfold fX12_isFamily
  repeat' first | exact bi_0 | exact bi_1 | exact bzX12_isIn rfl | with_reducible apply bi_ite
def fX12_get (μ : PM) (a0 : Int32) (a1 : Int32) : Option (Int32) :=
  go_chk ((12 + (2 * a0)) + a1) 1792 <| some ((μ.1 402 (((12 + (2 * a0)) + a1) : Int32).toNatClampNeg))
set_option maxRecDepth 20000 in
set_option maxHeartbeats 4000000 in
theorem cmX12_get (w : go_Wd) (tx : Nat) (Q : Option Value → go_M → Prop) (μ : PM) (a0 : Int32) (a1 : Int32) (out : Int32) (h : fX12_get μ a0 a1 = some out) (hK : Q (some (.int out)) (go_mk tx μ)) : Go w 0 0 0 mtX12_get 0 [(0, .ref 401), (1, .int a0), (2, .int a1)] [] (go_mk tx μ) (go_Z w Q) := by
  unfold fX12_get at h
  refine go_aload_n dX12_get_0 0 rfl ?_
  refine pp_getR dX12_get_1 ff_X12_7 (Or.inr ⟨_, rfl⟩) sh_401 rf_401_0 ?_
  refine go_bipush (v := 12) dX12_get_4 (by decide) ?_
  refine go_iconst (v := 2) dX12_get_6 (by decide) ?_
  refine go_iload_n dX12_get_7 1 rfl ?_
  refine go_imul dX12_get_8 ?_
  refine go_iadd dX12_get_9 ?_
  refine go_iload_n dX12_get_10 2 rfl ?_
  refine go_iadd dX12_get_11 ?_
  obtain ⟨hz1, h⟩ := go_chk_e h
  refine pp_ild dX12_get_12 sh_402 hz1 ?_
  cases h
  exact go_iret dX12_get_13 rfl hK
theorem ctX12_get {w : go_Wd} {tx : Nat} {μ : PM} {a0 : Int32} {a1 : Int32} {r : Int32}  (h : fX12_get μ a0 a1 = some r) : Ct w 0 0 0 mtX12_get [.ref 401, .int a0, .int a1] (go_mk tx μ) (fun r' M' => r' = some (.int r) ∧ M' = go_mk tx μ) :=
  go_entry rfl (by decide) (Nat.le_of_ble_eq_true rfl) (cmX12_get w tx _ μ a0 a1 _ h ⟨rfl, rfl⟩)
def fX12_put (μ : PM) (a0 : Int32) (a1 : Int32) (a2 : Int32) : Option (PM) :=
  go_chk ((12 + (2 * a0)) + a1) 1792 <| go_let (pm_wi μ 402 (((12 + (2 * a0)) + a1) : Int32).toNatClampNeg a2) fun μ1 => some (μ1)
set_option maxRecDepth 20000 in
set_option maxHeartbeats 4000000 in
theorem cmX12_put (w : go_Wd) (tx : Nat) (Q : Option Value → go_M → Prop) (μ : PM) (a0 : Int32) (a1 : Int32) (a2 : Int32) (out : PM) (h : fX12_put μ a0 a1 a2 = some out) (hK : Q none (go_mk tx out)) : Go w 0 0 0 mtX12_put 0 [(0, .ref 401), (1, .int a0), (2, .int a1), (3, .int a2)] [] (go_mk tx μ) (go_Z w Q) := by
  unfold fX12_put at h
  refine go_aload_n dX12_put_0 0 rfl ?_
  refine pp_getR dX12_put_1 ff_X12_7 (Or.inr ⟨_, rfl⟩) sh_401 rf_401_0 ?_
  refine go_bipush (v := 12) dX12_put_4 (by decide) ?_
  refine go_iconst (v := 2) dX12_put_6 (by decide) ?_
  refine go_iload_n dX12_put_7 1 rfl ?_
  refine go_imul dX12_put_8 ?_
  refine go_iadd dX12_put_9 ?_
  refine go_iload_n dX12_put_10 2 rfl ?_
  refine go_iadd dX12_put_11 ?_
  refine go_iload_n dX12_put_12 3 rfl ?_
  obtain ⟨hz2, h⟩ := go_chk_e h
  obtain ⟨μ1, hμ1, h⟩ := go_let_e h
  refine pp_ist dX12_put_13 sh_402 hz2 hμ1 ?_
  cases h
  exact go_vret dX12_put_14 rfl hK
theorem ctX12_put {w : go_Wd} {tx : Nat} {μ : PM} {a0 : Int32} {a1 : Int32} {a2 : Int32} {μ1 : PM}  (h : fX12_put μ a0 a1 a2 = some μ1) : Ct w 0 0 0 mtX12_put [.ref 401, .int a0, .int a1, .int a2] (go_mk tx μ) (fun r' M' => r' = none ∧ M' = go_mk tx μ1) :=
  go_entry rfl (by decide) (Nat.le_of_ble_eq_true rfl) (cmX12_put w tx _ μ a0 a1 a2 _ h ⟨rfl, rfl⟩)
def lbX12_lengthOf_4 (a0 : Int32)  (v1 : Int32) (v2 : Int32) : Option ((Int32 × Int32) ⊕ (Int32)) :=
  (if v2 ≤ 0 then some (.inr (v1)) else some (.inl ((v1 + 1), (v2 / 10))))
def fX12_lengthOf (a0 : Int32) : Option (Int32) :=
  ((lp (fun s => lbX12_lengthOf_4 a0 s.1 s.2) go_fuel (0, a0)).bind fun ρ1 => some ρ1)
def ggX12_lengthOf_4 (w : go_Wd) (tx : Nat) (Q : Option Value → go_M → Prop) (μ : PM) (a0 : Int32)  (s : Int32 × Int32) : Prop := Go w 0 0 0 mtX12_lengthOf 4 [(1, .int s.1), (2, .int s.2)] [] (go_mk tx μ) (go_Z w Q)
def eeX12_lengthOf_4 (w : go_Wd) (tx : Nat) (Q : Option Value → go_M → Prop) (μ : PM) (a0 : Int32)  (y : Int32) : Prop := Q (some (.int y)) (go_mk tx μ)
set_option maxRecDepth 20000 in
set_option maxHeartbeats 4000000 in
theorem lqX12_lengthOf_4 (w : go_Wd) (tx : Nat) (Q : Option Value → go_M → Prop) (μ : PM) (a0 : Int32)   (v1 : Int32) (v2 : Int32) (out : (Int32 × Int32) ⊕ (Int32)) (h : lbX12_lengthOf_4 a0  v1 v2 = some out) (hK : go_out (ggX12_lengthOf_4 w tx Q μ a0 ) (eeX12_lengthOf_4 w tx Q μ a0 ) out) : ggX12_lengthOf_4 w tx Q μ a0  (v1, v2) := by
  unfold lbX12_lengthOf_4 at h
  show Go w 0 0 0 mtX12_lengthOf 4 [(1, .int v1), (2, .int v2)] [] (go_mk tx μ) (go_Z w Q)
  refine go_iload_n dX12_lengthOf_4 1 rfl ?_
  refine go_if_le 19 dX12_lengthOf_5 (by decide) (fun hc => ?_) (fun hc => ?_)
  · have h := go_ifp hc h
    refine go_iload_n dX12_lengthOf_19 0 rfl ?_
    cases h
    exact go_iret dX12_lengthOf_20 rfl hK
  · have h := go_ifn hc h
    refine go_iinc (v := (v1 + 1)) dX12_lengthOf_8 0 rfl rfl (by decide) rfl ?_
    show Go w 0 0 0 mtX12_lengthOf 11 [(1, .int (v1 + 1)), (2, .int v2)] [] (go_mk tx μ) (go_Z w Q)
    refine go_iload_n dX12_lengthOf_11 1 rfl ?_
    refine go_bipush (v := 10) dX12_lengthOf_12 (by decide) ?_
    refine go_idiv dX12_lengthOf_14 (by decide) ?_
    refine go_istore_n dX12_lengthOf_15 (by decide) rfl ?_
    show Go w 0 0 0 mtX12_lengthOf 16 [(2, .int (v2 / 10)), (1, .int (v1 + 1))] [] (go_mk tx μ) (go_Z w Q)
    refine go_goto 4 dX12_lengthOf_16 (by decide) ?_
    cases h
    have hK : Go w 0 0 0 mtX12_lengthOf 4 [(1, .int (v1 + 1)), (2, .int (v2 / 10))] [] (go_mk tx μ) (go_Z w Q) := hK
    exact go_pick [1, 0] rfl hK
set_option maxRecDepth 20000 in
set_option maxHeartbeats 4000000 in
theorem cmX12_lengthOf (w : go_Wd) (tx : Nat) (Q : Option Value → go_M → Prop) (μ : PM) (a0 : Int32) (out : Int32) (h : fX12_lengthOf a0 = some out) (hK : Q (some (.int out)) (go_mk tx μ)) : Go w 0 0 0 mtX12_lengthOf 0 [(0, .int a0)] [] (go_mk tx μ) (go_Z w Q) := by
  unfold fX12_lengthOf at h
  refine go_iconst (v := 0) dX12_lengthOf_0 (by decide) ?_
  refine go_istore_n dX12_lengthOf_1 (by decide) rfl ?_
  show Go w 0 0 0 mtX12_lengthOf 2 [(1, .int 0), (0, .int a0)] [] (go_mk tx μ) (go_Z w Q)
  refine go_iload_n dX12_lengthOf_2 1 rfl ?_
  refine go_istore_n dX12_lengthOf_3 (by decide) rfl ?_
  show Go w 0 0 0 mtX12_lengthOf 4 [(2, .int a0), (1, .int 0), (0, .int a0)] [] (go_mk tx μ) (go_Z w Q)
  obtain ⟨ρ1, hρ1, h⟩ := go_bind h
  refine go_pick [1, 0] rfl ?_
  refine go_lp (G := ggX12_lengthOf_4 w tx Q μ a0 ) (E := eeX12_lengthOf_4 w tx Q μ a0 ) (fun s out h hK => lqX12_lengthOf_4 w tx Q μ a0   s.1 s.2 out h hK) go_fuel (0, a0) ρ1 hρ1 ?_
  cases h
  exact hK
theorem ctX12_lengthOf {w : go_Wd} {tx : Nat} {μ : PM} {a0 : Int32} {r : Int32}  (h : fX12_lengthOf a0 = some r) : Ct w 0 0 0 mtX12_lengthOf [.int a0] (go_mk tx μ) (fun r' M' => r' = some (.int r) ∧ M' = go_mk tx μ) :=
  go_entry rfl (by decide) (Nat.le_of_ble_eq_true rfl) (cmX12_lengthOf w tx _ μ a0 _ h ⟨rfl, rfl⟩)
def lbX12_areSounds_14 (a0 : Int32)  (v1 : Int32) : Option ((Int32) ⊕ (Int32)) :=
  (if v1 ≤ 0 then some (.inr (1)) else (if (jrem v1 10) = 0 then some (.inr (0)) else some (.inl (v1 / 10))))
def fX12_areSounds (a0 : Int32) : Option (Int32) :=
  (if (fX12_isIn a0 1 99999) = 0 then some (0) else ((lp (fun s => lbX12_areSounds_14 a0 s) go_fuel a0).bind fun ρ1 => some ρ1))
def ggX12_areSounds_14 (w : go_Wd) (tx : Nat) (Q : Option Value → go_M → Prop) (μ : PM) (a0 : Int32)  (s : Int32) : Prop := Go w 1 0 0 mtX12_areSounds 14 [(1, .int s)] [] (go_mk tx μ) (go_Z w Q)
def eeX12_areSounds_14 (w : go_Wd) (tx : Nat) (Q : Option Value → go_M → Prop) (μ : PM) (a0 : Int32)  (y : Int32) : Prop := Q (some (.int y)) (go_mk tx μ)
set_option maxRecDepth 20000 in
set_option maxHeartbeats 4000000 in
theorem lqX12_areSounds_14 (w : go_Wd) (tx : Nat) (Q : Option Value → go_M → Prop) (μ : PM) (a0 : Int32)   (v1 : Int32) (out : (Int32) ⊕ (Int32)) (h : lbX12_areSounds_14 a0  v1 = some out) (hK : go_out (ggX12_areSounds_14 w tx Q μ a0 ) (eeX12_areSounds_14 w tx Q μ a0 ) out) : ggX12_areSounds_14 w tx Q μ a0  v1 := by
  unfold lbX12_areSounds_14 at h
  show Go w 1 0 0 mtX12_areSounds 14 [(1, .int v1)] [] (go_mk tx μ) (go_Z w Q)
  refine go_iload_n dX12_areSounds_14 0 rfl ?_
  refine go_if_le 35 dX12_areSounds_15 (by decide) (fun hc => ?_) (fun hc => ?_)
  · have h := go_ifp hc h
    refine go_iconst (v := 1) dX12_areSounds_35 (by decide) ?_
    cases h
    exact go_zret dX12_areSounds_36 rfl (Or.inr rfl) hK
  · have h := go_ifn hc h
    refine go_iload_n dX12_areSounds_18 0 rfl ?_
    refine go_bipush (v := 10) dX12_areSounds_19 (by decide) ?_
    refine go_iremJ dX12_areSounds_21 (by decide) ?_
    refine go_if_ne 27 dX12_areSounds_22 (by decide) (fun hc => ?_) (fun hc => ?_)
    · have h := go_ifn hc h
      refine go_iload_n dX12_areSounds_27 0 rfl ?_
      refine go_bipush (v := 10) dX12_areSounds_28 (by decide) ?_
      refine go_idiv dX12_areSounds_30 (by decide) ?_
      refine go_istore_n dX12_areSounds_31 (by decide) rfl ?_
      show Go w 1 0 0 mtX12_areSounds 32 [(1, .int (v1 / 10))] [] (go_mk tx μ) (go_Z w Q)
      refine go_goto 14 dX12_areSounds_32 (by decide) ?_
      cases h
      have hK : Go w 1 0 0 mtX12_areSounds 14 [(1, .int (v1 / 10))] [] (go_mk tx μ) (go_Z w Q) := hK
      exact go_pick [0] rfl hK
    · have h := go_ifp hc h
      refine go_iconst (v := 0) dX12_areSounds_25 (by decide) ?_
      cases h
      exact go_zret dX12_areSounds_26 rfl (Or.inl rfl) hK
set_option maxRecDepth 20000 in
set_option maxHeartbeats 4000000 in
theorem cmX12_areSounds (w : go_Wd) (tx : Nat) (Q : Option Value → go_M → Prop) (μ : PM) (a0 : Int32) (out : Int32) (h : fX12_areSounds a0 = some out) (hK : Q (some (.int out)) (go_mk tx μ)) : Go w 1 0 0 mtX12_areSounds 0 [(0, .int a0)] [] (go_mk tx μ) (go_Z w Q) := by
  unfold fX12_areSounds at h
  refine go_iload_n dX12_areSounds_0 0 rfl ?_
  refine go_iconst (v := 1) dX12_areSounds_1 (by decide) ?_
  refine go_ldc dX12_areSounds_2 kk_X12_67 ?_
  refine pp_callS (as := [.int a0, .int 1, .int 99999]) (st := []) (rv := (some (.int (fX12_isIn a0 1 99999)))) (μ1 := μ) (st1 := [.int (fX12_isIn a0 1 99999)]) dX12_areSounds_4 ll_X12_63 (ctX12_isIn  rfl) rfl (Nat.le_of_ble_eq_true rfl) (Nat.le_of_ble_eq_true rfl) (go_Z_up w _) rfl rfl ?_
  refine go_if_ne 12 dX12_areSounds_7 (by decide) (fun hc => ?_) (fun hc => ?_)
  · have h := go_ifn hc h
    refine go_iload_n dX12_areSounds_12 0 rfl ?_
    refine go_istore_n dX12_areSounds_13 (by decide) rfl ?_
    show Go w 1 0 0 mtX12_areSounds 14 [(1, .int a0), (0, .int a0)] [] (go_mk tx μ) (go_Z w Q)
    obtain ⟨ρ1, hρ1, h⟩ := go_bind h
    refine go_pick [0] rfl ?_
    refine go_lp (G := ggX12_areSounds_14 w tx Q μ a0 ) (E := eeX12_areSounds_14 w tx Q μ a0 ) (fun s out h hK => lqX12_areSounds_14 w tx Q μ a0   s out h hK) go_fuel a0 ρ1 hρ1 ?_
    cases h
    exact hK
  · have h := go_ifp hc h
    refine go_iconst (v := 0) dX12_areSounds_10 (by decide) ?_
    cases h
    exact go_zret dX12_areSounds_11 rfl (Or.inl rfl) hK
theorem ctX12_areSounds {w : go_Wd} {tx : Nat} {μ : PM} {a0 : Int32} {r : Int32}  (h : fX12_areSounds a0 = some r) : Ct w 1 0 0 mtX12_areSounds [.int a0] (go_mk tx μ) (fun r' M' => r' = some (.int r) ∧ M' = go_mk tx μ) :=
  go_entry rfl (by decide) (Nat.le_of_ble_eq_true rfl) (cmX12_areSounds w tx _ μ a0 _ h ⟨rfl, rfl⟩)
def fX12_begin (μ : PM) (a0 : Int32) : Option (PM) :=
  (fX12_put μ a0 0 (-1)).bind fun q1 => go_chk (30 + a0) 1792 <| (fX12_lengthOf (q1.1 402 ((30 + a0) : Int32).toNatClampNeg)).bind fun q3 => (fX12_put q1 a0 1 q3).bind fun q4 => some (q4)
set_option maxRecDepth 20000 in
set_option maxHeartbeats 4000000 in
theorem cmX12_begin (w : go_Wd) (tx : Nat) (Q : Option Value → go_M → Prop) (μ : PM) (a0 : Int32) (out : PM) (h : fX12_begin μ a0 = some out) (hK : Q none (go_mk tx out)) : Go w 1 0 0 mtX12_begin 0 [(0, .ref 401), (1, .int a0)] [] (go_mk tx μ) (go_Z w Q) := by
  unfold fX12_begin at h
  refine go_aload_n dX12_begin_0 0 rfl ?_
  refine go_iload_n dX12_begin_1 1 rfl ?_
  refine go_iconst (v := 0) dX12_begin_2 (by decide) ?_
  refine go_iconst (v := (-1)) dX12_begin_3 (by decide) ?_
  obtain ⟨q1, hq1, h⟩ := go_bind h
  refine pp_callV (as := [.int a0, .int 0, .int (-1)]) (st := []) (rv := none) (μ1 := q1) (st1 := []) dX12_begin_4 ll_X12_76 sh_401 (by decide) rfl (ctX12_put  hq1) rfl (Nat.le_of_ble_eq_true rfl) (Nat.le_of_ble_eq_true rfl) (go_Z_up w _) rfl rfl ?_
  refine go_aload_n dX12_begin_7 0 rfl ?_
  refine go_iload_n dX12_begin_8 1 rfl ?_
  refine go_iconst (v := 1) dX12_begin_9 (by decide) ?_
  refine go_aload_n dX12_begin_10 0 rfl ?_
  refine pp_getR dX12_begin_11 ff_X12_7 (Or.inr ⟨_, rfl⟩) sh_401 rf_401_0 ?_
  refine go_bipush (v := 30) dX12_begin_14 (by decide) ?_
  refine go_iload_n dX12_begin_16 1 rfl ?_
  refine go_iadd dX12_begin_17 ?_
  obtain ⟨hz2, h⟩ := go_chk_e h
  refine pp_ild dX12_begin_18 sh_402 hz2 ?_
  obtain ⟨q3, hq3, h⟩ := go_bind h
  refine pp_callS (as := [.int (q1.1 402 ((30 + a0) : Int32).toNatClampNeg)]) (st := [.int 1, .int a0, .ref 401]) (rv := (some (.int q3))) (μ1 := q1) (st1 := [.int q3, .int 1, .int a0, .ref 401]) dX12_begin_19 ll_X12_80 (ctX12_lengthOf  hq3) rfl (Nat.le_of_ble_eq_true rfl) (Nat.le_of_ble_eq_true rfl) (go_Z_up w _) rfl rfl ?_
  obtain ⟨q4, hq4, h⟩ := go_bind h
  refine pp_callV (as := [.int a0, .int 1, .int q3]) (st := []) (rv := none) (μ1 := q4) (st1 := []) dX12_begin_22 ll_X12_76 sh_401 (by decide) rfl (ctX12_put  hq4) rfl (Nat.le_of_ble_eq_true rfl) (Nat.le_of_ble_eq_true rfl) (go_Z_up w _) rfl rfl ?_
  cases h
  exact go_vret dX12_begin_25 rfl hK
theorem ctX12_begin {w : go_Wd} {tx : Nat} {μ : PM} {a0 : Int32} {μ1 : PM}  (h : fX12_begin μ a0 = some μ1) : Ct w 1 0 0 mtX12_begin [.ref 401, .int a0] (go_mk tx μ) (fun r' M' => r' = none ∧ M' = go_mk tx μ1) :=
  go_entry rfl (by decide) (Nat.le_of_ble_eq_true rfl) (cmX12_begin w tx _ μ a0 _ h ⟨rfl, rfl⟩)
def fX12_name (μ : PM) (a0 : Int32) (a1 : Int32) : Option (Int32 × PM) :=
  (fX12_areSounds a0).bind fun q1 => (if q1 = 0 then some (((-1), μ)) else (if (fX12_isIn a1 0 9) = 0 then some (((-1), μ)) else (if (μ.1 402 0) = 6 then some (((-1), μ)) else go_chk (30 + (μ.1 402 0)) 1792 <| go_let (pm_wi μ 402 ((30 + (μ.1 402 0)) : Int32).toNatClampNeg a0) fun μ2 => go_chk (36 + (μ.1 402 0)) 1792 <| go_let (pm_wi μ2 402 ((36 + (μ.1 402 0)) : Int32).toNatClampNeg a1) fun μ4 => (fX12_begin μ4 (μ.1 402 0)).bind fun q6 => go_let (pm_wi q6 402 0 ((q6.1 402 0) + 1)) fun μ7 => some (((μ.1 402 0), μ7)))))
set_option maxRecDepth 20000 in
set_option maxHeartbeats 4000000 in
theorem cmX12_name (w : go_Wd) (tx : Nat) (Q : Option Value → go_M → Prop) (μ : PM) (a0 : Int32) (a1 : Int32) (out : Int32 × PM) (h : fX12_name μ a0 a1 = some out) (hK : Q (some (.int out.1)) (go_mk tx out.2)) : Go w 2 0 0 mtX12_name 0 [(0, .ref 401), (1, .int a0), (2, .int a1)] [] (go_mk tx μ) (go_Z w Q) := by
  unfold fX12_name at h
  refine go_iload_n dX12_name_0 1 rfl ?_
  obtain ⟨q1, hq1, h⟩ := go_bind h
  refine pp_callS (as := [.int a0]) (st := []) (rv := (some (.int q1))) (μ1 := μ) (st1 := [.int q1]) dX12_name_1 ll_X12_68 (ctX12_areSounds  hq1) rfl (Nat.le_of_ble_eq_true rfl) (Nat.le_of_ble_eq_true rfl) (go_Z_up w _) rfl rfl ?_
  refine go_if_eq 28 dX12_name_4 (by decide) (fun hc => ?_) (fun hc => ?_)
  · have h := go_ifp hc h
    refine go_iconst (v := (-1)) dX12_name_28 (by decide) ?_
    cases h
    exact go_iret dX12_name_29 rfl hK
  · have h := go_ifn hc h
    refine go_iload_n dX12_name_7 2 rfl ?_
    refine go_iconst (v := 0) dX12_name_8 (by decide) ?_
    refine go_bipush (v := 9) dX12_name_9 (by decide) ?_
    refine pp_callS (as := [.int a1, .int 0, .int 9]) (st := []) (rv := (some (.int (fX12_isIn a1 0 9)))) (μ1 := μ) (st1 := [.int (fX12_isIn a1 0 9)]) dX12_name_11 ll_X12_63 (ctX12_isIn  rfl) rfl (Nat.le_of_ble_eq_true rfl) (Nat.le_of_ble_eq_true rfl) (go_Z_up w _) rfl rfl ?_
    refine go_if_eq 28 dX12_name_14 (by decide) (fun hc => ?_) (fun hc => ?_)
    · have h := go_ifp hc h
      refine go_iconst (v := (-1)) dX12_name_28 (by decide) ?_
      cases h
      exact go_iret dX12_name_29 rfl hK
    · have h := go_ifn hc h
      refine go_aload_n dX12_name_17 0 rfl ?_
      refine pp_getR dX12_name_18 ff_X12_7 (Or.inr ⟨_, rfl⟩) sh_401 rf_401_0 ?_
      refine go_iconst (v := 0) dX12_name_21 (by decide) ?_
      refine pp_ildc (q := 0) dX12_name_22 sh_402 (by decide) ?_
      refine go_bipush (v := 6) dX12_name_23 (by decide) ?_
      refine go_icmp_ne 30 dX12_name_25 (by decide) (fun hc => ?_) (fun hc => ?_)
      · have h := go_ifn hc h
        refine go_aload_n dX12_name_30 0 rfl ?_
        refine pp_getR dX12_name_31 ff_X12_7 (Or.inr ⟨_, rfl⟩) sh_401 rf_401_0 ?_
        refine go_iconst (v := 0) dX12_name_34 (by decide) ?_
        refine pp_ildc (q := 0) dX12_name_35 sh_402 (by decide) ?_
        refine go_istore_n dX12_name_36 (by decide) rfl ?_
        show Go w 2 0 0 mtX12_name 37 [(3, .int (μ.1 402 0)), (0, .ref 401), (1, .int a0), (2, .int a1)] [] (go_mk tx μ) (go_Z w Q)
        refine go_aload_n dX12_name_37 1 rfl ?_
        refine pp_getR dX12_name_38 ff_X12_7 (Or.inr ⟨_, rfl⟩) sh_401 rf_401_0 ?_
        refine go_bipush (v := 30) dX12_name_41 (by decide) ?_
        refine go_iload_n dX12_name_43 0 rfl ?_
        refine go_iadd dX12_name_44 ?_
        refine go_iload_n dX12_name_45 2 rfl ?_
        obtain ⟨hz3, h⟩ := go_chk_e h
        obtain ⟨μ2, hμ2, h⟩ := go_let_e h
        refine pp_ist dX12_name_46 sh_402 hz3 hμ2 ?_
        refine go_aload_n dX12_name_47 1 rfl ?_
        refine pp_getR dX12_name_48 ff_X12_7 (Or.inr ⟨_, rfl⟩) sh_401 rf_401_0 ?_
        refine go_bipush (v := 36) dX12_name_51 (by decide) ?_
        refine go_iload_n dX12_name_53 0 rfl ?_
        refine go_iadd dX12_name_54 ?_
        refine go_iload_n dX12_name_55 3 rfl ?_
        obtain ⟨hz5, h⟩ := go_chk_e h
        obtain ⟨μ4, hμ4, h⟩ := go_let_e h
        refine pp_ist dX12_name_56 sh_402 hz5 hμ4 ?_
        refine go_aload_n dX12_name_57 1 rfl ?_
        refine go_iload_n dX12_name_58 0 rfl ?_
        obtain ⟨q6, hq6, h⟩ := go_bind h
        refine pp_callV (as := [.int (μ.1 402 0)]) (st := []) (rv := none) (μ1 := q6) (st1 := []) dX12_name_59 ll_X12_72 sh_401 (by decide) rfl (ctX12_begin  hq6) rfl (Nat.le_of_ble_eq_true rfl) (Nat.le_of_ble_eq_true rfl) (go_Z_up w _) rfl rfl ?_
        refine go_aload_n dX12_name_62 1 rfl ?_
        refine pp_getR dX12_name_63 ff_X12_7 (Or.inr ⟨_, rfl⟩) sh_401 rf_401_0 ?_
        refine go_iconst (v := 0) dX12_name_66 (by decide) ?_
        refine go_dup2 dX12_name_67 rfl rfl ?_
        refine pp_ildc (q := 0) dX12_name_68 sh_402 (by decide) ?_
        refine go_iconst (v := 1) dX12_name_69 (by decide) ?_
        refine go_iadd dX12_name_70 ?_
        obtain ⟨μ7, hμ7, h⟩ := go_let_e h
        refine pp_istc (q := 0) dX12_name_71 sh_402 (by decide) hμ7 ?_
        refine go_iload_n dX12_name_72 0 rfl ?_
        cases h
        exact go_iret dX12_name_73 rfl hK
      · have h := go_ifp hc h
        refine go_iconst (v := (-1)) dX12_name_28 (by decide) ?_
        cases h
        exact go_iret dX12_name_29 rfl hK
theorem ctX12_name {w : go_Wd} {tx : Nat} {μ : PM} {a0 : Int32} {a1 : Int32} {r : Int32} {μ1 : PM}  (h : fX12_name μ a0 a1 = some (r, μ1)) : Ct w 2 0 0 mtX12_name [.ref 401, .int a0, .int a1] (go_mk tx μ) (fun r' M' => r' = some (.int r) ∧ M' = go_mk tx μ1) :=
  go_entry rfl (by decide) (Nat.le_of_ble_eq_true rfl) (cmX12_name w tx _ μ a0 a1 _ h ⟨rfl, rfl⟩)
def fX12_family (μ : PM) (a0 : Int32) (a1 : Int32) : Option (Int32 × PM) :=
  (if (fX12_isIn a0 1 9) = 0 then some (((-1), μ)) else (if (fX12_isCell a1) = 0 then some (((-1), μ)) else (if (μ.1 402 1) = 5 then some (((-1), μ)) else go_chk (42 + (μ.1 402 1)) 1792 <| go_let (pm_wi μ 402 ((42 + (μ.1 402 1)) : Int32).toNatClampNeg a0) fun μ1 => go_chk (47 + (μ.1 402 1)) 1792 <| go_let (pm_wi μ1 402 ((47 + (μ.1 402 1)) : Int32).toNatClampNeg a1) fun μ3 => go_chk (24 + (μ.1 402 1)) 1792 <| go_let (pm_wi μ3 402 ((24 + (μ.1 402 1)) : Int32).toNatClampNeg a1) fun μ5 => go_let (pm_wi μ5 402 1 ((μ5.1 402 1) + 1)) fun μ7 => some (((μ.1 402 1), μ7)))))
set_option maxRecDepth 20000 in
set_option maxHeartbeats 4000000 in
theorem cmX12_family (w : go_Wd) (tx : Nat) (Q : Option Value → go_M → Prop) (μ : PM) (a0 : Int32) (a1 : Int32) (out : Int32 × PM) (h : fX12_family μ a0 a1 = some out) (hK : Q (some (.int out.1)) (go_mk tx out.2)) : Go w 2 0 0 mtX12_family 0 [(0, .ref 401), (1, .int a0), (2, .int a1)] [] (go_mk tx μ) (go_Z w Q) := by
  unfold fX12_family at h
  refine go_iload_n dX12_family_0 1 rfl ?_
  refine go_iconst (v := 1) dX12_family_1 (by decide) ?_
  refine go_bipush (v := 9) dX12_family_2 (by decide) ?_
  refine pp_callS (as := [.int a0, .int 1, .int 9]) (st := []) (rv := (some (.int (fX12_isIn a0 1 9)))) (μ1 := μ) (st1 := [.int (fX12_isIn a0 1 9)]) dX12_family_4 ll_X12_63 (ctX12_isIn  rfl) rfl (Nat.le_of_ble_eq_true rfl) (Nat.le_of_ble_eq_true rfl) (go_Z_up w _) rfl rfl ?_
  refine go_if_eq 27 dX12_family_7 (by decide) (fun hc => ?_) (fun hc => ?_)
  · have h := go_ifp hc h
    refine go_iconst (v := (-1)) dX12_family_27 (by decide) ?_
    cases h
    exact go_iret dX12_family_28 rfl hK
  · have h := go_ifn hc h
    refine go_iload_n dX12_family_10 2 rfl ?_
    refine pp_callS (as := [.int a1]) (st := []) (rv := (some (.int (fX12_isCell a1)))) (μ1 := μ) (st1 := [.int (fX12_isCell a1)]) dX12_family_11 ll_X12_84 (ctX12_isCell  rfl) rfl (Nat.le_of_ble_eq_true rfl) (Nat.le_of_ble_eq_true rfl) (go_Z_up w _) rfl rfl ?_
    refine go_if_eq 27 dX12_family_14 (by decide) (fun hc => ?_) (fun hc => ?_)
    · have h := go_ifp hc h
      refine go_iconst (v := (-1)) dX12_family_27 (by decide) ?_
      cases h
      exact go_iret dX12_family_28 rfl hK
    · have h := go_ifn hc h
      refine go_aload_n dX12_family_17 0 rfl ?_
      refine pp_getR dX12_family_18 ff_X12_7 (Or.inr ⟨_, rfl⟩) sh_401 rf_401_0 ?_
      refine go_iconst (v := 1) dX12_family_21 (by decide) ?_
      refine pp_ildc (q := 1) dX12_family_22 sh_402 (by decide) ?_
      refine go_iconst (v := 5) dX12_family_23 (by decide) ?_
      refine go_icmp_ne 29 dX12_family_24 (by decide) (fun hc => ?_) (fun hc => ?_)
      · have h := go_ifn hc h
        refine go_aload_n dX12_family_29 0 rfl ?_
        refine pp_getR dX12_family_30 ff_X12_7 (Or.inr ⟨_, rfl⟩) sh_401 rf_401_0 ?_
        refine go_iconst (v := 1) dX12_family_33 (by decide) ?_
        refine pp_ildc (q := 1) dX12_family_34 sh_402 (by decide) ?_
        refine go_istore_n dX12_family_35 (by decide) rfl ?_
        show Go w 2 0 0 mtX12_family 36 [(3, .int (μ.1 402 1)), (0, .ref 401), (1, .int a0), (2, .int a1)] [] (go_mk tx μ) (go_Z w Q)
        refine go_aload_n dX12_family_36 1 rfl ?_
        refine pp_getR dX12_family_37 ff_X12_7 (Or.inr ⟨_, rfl⟩) sh_401 rf_401_0 ?_
        refine go_bipush (v := 42) dX12_family_40 (by decide) ?_
        refine go_iload_n dX12_family_42 0 rfl ?_
        refine go_iadd dX12_family_43 ?_
        refine go_iload_n dX12_family_44 2 rfl ?_
        obtain ⟨hz2, h⟩ := go_chk_e h
        obtain ⟨μ1, hμ1, h⟩ := go_let_e h
        refine pp_ist dX12_family_45 sh_402 hz2 hμ1 ?_
        refine go_aload_n dX12_family_46 1 rfl ?_
        refine pp_getR dX12_family_47 ff_X12_7 (Or.inr ⟨_, rfl⟩) sh_401 rf_401_0 ?_
        refine go_bipush (v := 47) dX12_family_50 (by decide) ?_
        refine go_iload_n dX12_family_52 0 rfl ?_
        refine go_iadd dX12_family_53 ?_
        refine go_iload_n dX12_family_54 3 rfl ?_
        obtain ⟨hz4, h⟩ := go_chk_e h
        obtain ⟨μ3, hμ3, h⟩ := go_let_e h
        refine pp_ist dX12_family_55 sh_402 hz4 hμ3 ?_
        refine go_aload_n dX12_family_56 1 rfl ?_
        refine pp_getR dX12_family_57 ff_X12_7 (Or.inr ⟨_, rfl⟩) sh_401 rf_401_0 ?_
        refine go_bipush (v := 24) dX12_family_60 (by decide) ?_
        refine go_iload_n dX12_family_62 0 rfl ?_
        refine go_iadd dX12_family_63 ?_
        refine go_iload_n dX12_family_64 3 rfl ?_
        obtain ⟨hz6, h⟩ := go_chk_e h
        obtain ⟨μ5, hμ5, h⟩ := go_let_e h
        refine pp_ist dX12_family_65 sh_402 hz6 hμ5 ?_
        refine go_aload_n dX12_family_66 1 rfl ?_
        refine pp_getR dX12_family_67 ff_X12_7 (Or.inr ⟨_, rfl⟩) sh_401 rf_401_0 ?_
        refine go_iconst (v := 1) dX12_family_70 (by decide) ?_
        refine go_dup2 dX12_family_71 rfl rfl ?_
        refine pp_ildc (q := 1) dX12_family_72 sh_402 (by decide) ?_
        refine go_iconst (v := 1) dX12_family_73 (by decide) ?_
        refine go_iadd dX12_family_74 ?_
        obtain ⟨μ7, hμ7, h⟩ := go_let_e h
        refine pp_istc (q := 1) dX12_family_75 sh_402 (by decide) hμ7 ?_
        refine go_iload_n dX12_family_76 0 rfl ?_
        cases h
        exact go_iret dX12_family_77 rfl hK
      · have h := go_ifp hc h
        refine go_iconst (v := (-1)) dX12_family_27 (by decide) ?_
        cases h
        exact go_iret dX12_family_28 rfl hK
theorem ctX12_family {w : go_Wd} {tx : Nat} {μ : PM} {a0 : Int32} {a1 : Int32} {r : Int32} {μ1 : PM}  (h : fX12_family μ a0 a1 = some (r, μ1)) : Ct w 2 0 0 mtX12_family [.ref 401, .int a0, .int a1] (go_mk tx μ) (fun r' M' => r' = some (.int r) ∧ M' = go_mk tx μ1) :=
  go_entry rfl (by decide) (Nat.le_of_ble_eq_true rfl) (cmX12_family w tx _ μ a0 a1 _ h ⟨rfl, rfl⟩)
def fX12_eddy (μ : PM) (a0 : Int32) (a1 : Int32) : Int32 × PM :=
  (if (fX12_isCell a0) = 0 then (0, μ) else (if a1 = 0 then go_let (pm_wi μ 402 29 ((μ.1 402 29) &&& (((1 : Int32) <<< (a0 &&& 31)) ^^^ (-1)))) fun μ1 => (1, μ1) else go_let (pm_wi μ 402 29 ((μ.1 402 29) ||| ((1 : Int32) <<< (a0 &&& 31)))) fun μ2 => (1, μ2)))
set_option maxRecDepth 20000 in
set_option maxHeartbeats 4000000 in
theorem cmX12_eddy (w : go_Wd) (tx : Nat) (Q : Option Value → go_M → Prop) (μ : PM) (a0 : Int32) (a1 : Int32) (out : Int32 × PM) (h : fX12_eddy μ a0 a1 = out) (hK : Q (some (.int out.1)) (go_mk tx out.2)) : Go w 2 0 0 mtX12_eddy 0 [(0, .ref 401), (1, .int a0), (2, .int a1)] [] (go_mk tx μ) (go_Z w Q) := by
  unfold fX12_eddy at h
  refine go_iload_n dX12_eddy_0 1 rfl ?_
  refine pp_callS (as := [.int a0]) (st := []) (rv := (some (.int (fX12_isCell a0)))) (μ1 := μ) (st1 := [.int (fX12_isCell a0)]) dX12_eddy_1 ll_X12_84 (ctX12_isCell  rfl) rfl (Nat.le_of_ble_eq_true rfl) (Nat.le_of_ble_eq_true rfl) (go_Z_up w _) rfl rfl ?_
  refine go_if_ne 9 dX12_eddy_4 (by decide) (fun hc => ?_) (fun hc => ?_)
  · have h := go_ifn hc h
    refine go_aload_n dX12_eddy_9 0 rfl ?_
    refine pp_getR dX12_eddy_10 ff_X12_7 (Or.inr ⟨_, rfl⟩) sh_401 rf_401_0 ?_
    refine go_bipush (v := 29) dX12_eddy_13 (by decide) ?_
    refine go_iload_n dX12_eddy_15 2 rfl ?_
    refine go_if_eq 33 dX12_eddy_16 (by decide) (fun hc => ?_) (fun hc => ?_)
    · have h := go_ifp hc h
      refine go_aload_n dX12_eddy_33 0 rfl ?_
      refine pp_getR dX12_eddy_34 ff_X12_7 (Or.inr ⟨_, rfl⟩) sh_401 rf_401_0 ?_
      refine go_bipush (v := 29) dX12_eddy_37 (by decide) ?_
      refine pp_ildc (q := 29) dX12_eddy_39 sh_402 (by decide) ?_
      refine go_iconst (v := 1) dX12_eddy_40 (by decide) ?_
      refine go_iload_n dX12_eddy_41 1 rfl ?_
      refine go_ishl dX12_eddy_42 ?_
      refine go_iconst (v := (-1)) dX12_eddy_43 (by decide) ?_
      refine go_ixor dX12_eddy_44 ?_
      refine go_iand dX12_eddy_45 ?_
      obtain ⟨μ1, hμ1, h⟩ := go_let_e h
      refine pp_istc (q := 29) dX12_eddy_46 sh_402 (by decide) hμ1 ?_
      refine go_iconst (v := 1) dX12_eddy_47 (by decide) ?_
      subst h
      exact go_zret dX12_eddy_48 rfl (Or.inr rfl) hK
    · have h := go_ifn hc h
      refine go_aload_n dX12_eddy_19 0 rfl ?_
      refine pp_getR dX12_eddy_20 ff_X12_7 (Or.inr ⟨_, rfl⟩) sh_401 rf_401_0 ?_
      refine go_bipush (v := 29) dX12_eddy_23 (by decide) ?_
      refine pp_ildc (q := 29) dX12_eddy_25 sh_402 (by decide) ?_
      refine go_iconst (v := 1) dX12_eddy_26 (by decide) ?_
      refine go_iload_n dX12_eddy_27 1 rfl ?_
      refine go_ishl dX12_eddy_28 ?_
      refine go_ior dX12_eddy_29 ?_
      refine go_goto 46 dX12_eddy_30 (by decide) ?_
      obtain ⟨μ2, hμ2, h⟩ := go_let_e h
      refine pp_istc (q := 29) dX12_eddy_46 sh_402 (by decide) hμ2 ?_
      refine go_iconst (v := 1) dX12_eddy_47 (by decide) ?_
      subst h
      exact go_zret dX12_eddy_48 rfl (Or.inr rfl) hK
  · have h := go_ifp hc h
    refine go_iconst (v := 0) dX12_eddy_7 (by decide) ?_
    subst h
    exact go_zret dX12_eddy_8 rfl (Or.inl rfl) hK
theorem ctX12_eddy {w : go_Wd} {tx : Nat} {μ : PM} {a0 : Int32} {a1 : Int32} {r : Int32} {μ1 : PM}  (h : fX12_eddy μ a0 a1 = (r, μ1)) : Ct w 2 0 0 mtX12_eddy [.ref 401, .int a0, .int a1] (go_mk tx μ) (fun r' M' => r' = some (.int r) ∧ M' = go_mk tx μ1) :=
  go_entry rfl (by decide) (Nat.le_of_ble_eq_true rfl) (cmX12_eddy w tx _ μ a0 a1 _ h ⟨rfl, rfl⟩)
def lbX12_four_3 (a0 : Int32)  (v2 : Int32) (μ : PM) : Option ((Int32 × PM) ⊕ (PM)) :=
  (if v2 < 0 then some (.inr (μ)) else go_chk (μ.1 401 4) 300 <| go_let (pm_wi μ 405 ((μ.1 401 4) : Int32).toNatClampNeg ((a0 >>> (v2 &&& 31)) &&& 255)) fun μ1 => go_let (pm_wi μ1 401 4 ((μ1.1 401 4) + 1)) fun μ3 => some (.inl ((v2 + (-8)), μ3)))
def fX12_four (μ : PM) (a0 : Int32) : Option (PM) :=
  ((lp (fun s => lbX12_four_3 a0 s.1 s.2) go_fuel (24, μ)).bind fun ρ4 => some ρ4)
def ggX12_four_3 (w : go_Wd) (tx : Nat) (Q : Option Value → go_M → Prop) (a0 : Int32)  (s : Int32 × PM) : Prop := Go w 0 0 0 mtX12_four 3 [(0, .ref 401), (1, .int a0), (2, .int s.1)] [] (go_mk tx s.2) (go_Z w Q)
def eeX12_four_3 (w : go_Wd) (tx : Nat) (Q : Option Value → go_M → Prop) (a0 : Int32)  (y : PM) : Prop := Q none (go_mk tx y)
set_option maxRecDepth 20000 in
set_option maxHeartbeats 4000000 in
theorem lqX12_four_3 (w : go_Wd) (tx : Nat) (Q : Option Value → go_M → Prop) (a0 : Int32)   (v2 : Int32) (μ : PM) (out : (Int32 × PM) ⊕ (PM)) (h : lbX12_four_3 a0  v2 μ = some out) (hK : go_out (ggX12_four_3 w tx Q a0 ) (eeX12_four_3 w tx Q a0 ) out) : ggX12_four_3 w tx Q a0  (v2, μ) := by
  unfold lbX12_four_3 at h
  show Go w 0 0 0 mtX12_four 3 [(0, .ref 401), (1, .int a0), (2, .int v2)] [] (go_mk tx μ) (go_Z w Q)
  refine go_iload_n dX12_four_3 2 rfl ?_
  refine go_if_lt 39 dX12_four_4 (by decide) (fun hc => ?_) (fun hc => ?_)
  · have h := go_ifp hc h
    cases h
    exact go_vret dX12_four_39 rfl hK
  · have h := go_ifn hc h
    refine go_aload_n dX12_four_7 0 rfl ?_
    refine pp_getR dX12_four_8 ff_X12_19 (Or.inr ⟨_, rfl⟩) sh_401 rf_401_3 ?_
    refine go_aload_n dX12_four_11 0 rfl ?_
    refine pp_getI dX12_four_12 ff_X12_87 (by decide) sh_401 ?_
    refine go_iload_n dX12_four_15 1 rfl ?_
    refine go_iload_n dX12_four_16 2 rfl ?_
    refine go_ishr dX12_four_17 ?_
    refine go_sipush (v := 255) dX12_four_18 (by decide) ?_
    refine go_iand dX12_four_21 ?_
    obtain ⟨hz2, h⟩ := go_chk_e h
    obtain ⟨μ1, hμ1, h⟩ := go_let_e h
    refine pp_ist dX12_four_22 sh_405 hz2 hμ1 ?_
    refine go_aload_n dX12_four_23 0 rfl ?_
    refine go_dup dX12_four_24 rfl ?_
    refine pp_getI dX12_four_25 ff_X12_87 (by decide) sh_401 ?_
    refine go_iconst (v := 1) dX12_four_28 (by decide) ?_
    refine go_iadd dX12_four_29 ?_
    obtain ⟨μ3, hμ3, h⟩ := go_let_e h
    refine pp_putI dX12_four_30 ff_X12_87 (Or.inl rfl) sh_401 hμ3 ?_
    refine go_iinc (v := (v2 + (-8))) dX12_four_33 2 rfl rfl (by decide) rfl ?_
    show Go w 0 0 0 mtX12_four 36 [(2, .int (v2 + (-8))), (0, .ref 401), (1, .int a0)] [] (go_mk tx μ3) (go_Z w Q)
    refine go_goto 3 dX12_four_36 (by decide) ?_
    cases h
    have hK : Go w 0 0 0 mtX12_four 3 [(0, .ref 401), (1, .int a0), (2, .int (v2 + (-8)))] [] (go_mk tx μ3) (go_Z w Q) := hK
    exact go_pick [1, 2, 0] rfl hK
set_option maxRecDepth 20000 in
set_option maxHeartbeats 4000000 in
theorem cmX12_four (w : go_Wd) (tx : Nat) (Q : Option Value → go_M → Prop) (μ : PM) (a0 : Int32) (out : PM) (h : fX12_four μ a0 = some out) (hK : Q none (go_mk tx out)) : Go w 0 0 0 mtX12_four 0 [(0, .ref 401), (1, .int a0)] [] (go_mk tx μ) (go_Z w Q) := by
  unfold fX12_four at h
  refine go_bipush (v := 24) dX12_four_0 (by decide) ?_
  refine go_istore_n dX12_four_2 (by decide) rfl ?_
  show Go w 0 0 0 mtX12_four 3 [(2, .int 24), (0, .ref 401), (1, .int a0)] [] (go_mk tx μ) (go_Z w Q)
  obtain ⟨ρ4, hρ4, h⟩ := go_bind h
  refine go_pick [1, 2, 0] rfl ?_
  refine go_lp (G := ggX12_four_3 w tx Q a0 ) (E := eeX12_four_3 w tx Q a0 ) (fun s out h hK => lqX12_four_3 w tx Q a0   s.1 s.2 out h hK) go_fuel (24, μ) ρ4 hρ4 ?_
  cases h
  exact hK
theorem ctX12_four {w : go_Wd} {tx : Nat} {μ : PM} {a0 : Int32} {μ1 : PM}  (h : fX12_four μ a0 = some μ1) : Ct w 0 0 0 mtX12_four [.ref 401, .int a0] (go_mk tx μ) (fun r' M' => r' = none ∧ M' = go_mk tx μ1) :=
  go_entry rfl (by decide) (Nat.le_of_ble_eq_true rfl) (cmX12_four w tx _ μ a0 _ h ⟨rfl, rfl⟩)
def fX12_feed (μ : PM) (a0 : Int32) (a1 : Int32) (a2 : Int32) (a3 : Int32) (a4 : Int32) : Option (Int32 × PM) :=
  (if ((μ.1 401 4) + 20) ≤ 300 then (fX12_four μ a0).bind fun q1 => (fX12_four q1 a1).bind fun q2 => (fX12_four q2 a2).bind fun q3 => (fX12_four q3 a3).bind fun q4 => (fX12_four q4 a4).bind fun q5 => some (((q5.1 401 4), q5)) else some (((-1), μ)))
set_option maxRecDepth 20000 in
set_option maxHeartbeats 4000000 in
theorem cmX12_feed (w : go_Wd) (tx : Nat) (Q : Option Value → go_M → Prop) (μ : PM) (a0 : Int32) (a1 : Int32) (a2 : Int32) (a3 : Int32) (a4 : Int32) (out : Int32 × PM) (h : fX12_feed μ a0 a1 a2 a3 a4 = some out) (hK : Q (some (.int out.1)) (go_mk tx out.2)) : Go w 1 0 0 mtX12_feed 0 [(0, .ref 401), (1, .int a0), (2, .int a1), (3, .int a2), (4, .int a3), (5, .int a4)] [] (go_mk tx μ) (go_Z w Q) := by
  unfold fX12_feed at h
  refine go_aload_n dX12_feed_0 0 rfl ?_
  refine pp_getI dX12_feed_1 ff_X12_87 (by decide) sh_401 ?_
  refine go_bipush (v := 20) dX12_feed_4 (by decide) ?_
  refine go_iadd dX12_feed_6 ?_
  refine go_sipush (v := 300) dX12_feed_7 (by decide) ?_
  refine go_icmp_le 15 dX12_feed_10 (by decide) (fun hc => ?_) (fun hc => ?_)
  · have h := go_ifp hc h
    refine go_aload_n dX12_feed_15 0 rfl ?_
    refine go_iload_n dX12_feed_16 1 rfl ?_
    obtain ⟨q1, hq1, h⟩ := go_bind h
    refine pp_callV (as := [.int a0]) (st := []) (rv := none) (μ1 := q1) (st1 := []) dX12_feed_17 ll_X12_90 sh_401 (by decide) rfl (ctX12_four  hq1) rfl (Nat.le_of_ble_eq_true rfl) (Nat.le_of_ble_eq_true rfl) (go_Z_up w _) rfl rfl ?_
    refine go_aload_n dX12_feed_20 0 rfl ?_
    refine go_iload_n dX12_feed_21 2 rfl ?_
    obtain ⟨q2, hq2, h⟩ := go_bind h
    refine pp_callV (as := [.int a1]) (st := []) (rv := none) (μ1 := q2) (st1 := []) dX12_feed_22 ll_X12_90 sh_401 (by decide) rfl (ctX12_four  hq2) rfl (Nat.le_of_ble_eq_true rfl) (Nat.le_of_ble_eq_true rfl) (go_Z_up w _) rfl rfl ?_
    refine go_aload_n dX12_feed_25 0 rfl ?_
    refine go_iload_n dX12_feed_26 3 rfl ?_
    obtain ⟨q3, hq3, h⟩ := go_bind h
    refine pp_callV (as := [.int a2]) (st := []) (rv := none) (μ1 := q3) (st1 := []) dX12_feed_27 ll_X12_90 sh_401 (by decide) rfl (ctX12_four  hq3) rfl (Nat.le_of_ble_eq_true rfl) (Nat.le_of_ble_eq_true rfl) (go_Z_up w _) rfl rfl ?_
    refine go_aload_n dX12_feed_30 0 rfl ?_
    refine go_iload dX12_feed_31 4 rfl ?_
    obtain ⟨q4, hq4, h⟩ := go_bind h
    refine pp_callV (as := [.int a3]) (st := []) (rv := none) (μ1 := q4) (st1 := []) dX12_feed_33 ll_X12_90 sh_401 (by decide) rfl (ctX12_four  hq4) rfl (Nat.le_of_ble_eq_true rfl) (Nat.le_of_ble_eq_true rfl) (go_Z_up w _) rfl rfl ?_
    refine go_aload_n dX12_feed_36 0 rfl ?_
    refine go_iload dX12_feed_37 5 rfl ?_
    obtain ⟨q5, hq5, h⟩ := go_bind h
    refine pp_callV (as := [.int a4]) (st := []) (rv := none) (μ1 := q5) (st1 := []) dX12_feed_39 ll_X12_90 sh_401 (by decide) rfl (ctX12_four  hq5) rfl (Nat.le_of_ble_eq_true rfl) (Nat.le_of_ble_eq_true rfl) (go_Z_up w _) rfl rfl ?_
    refine go_aload_n dX12_feed_42 0 rfl ?_
    refine pp_getI dX12_feed_43 ff_X12_87 (by decide) sh_401 ?_
    cases h
    exact go_iret dX12_feed_46 rfl hK
  · have h := go_ifn hc h
    refine go_iconst (v := (-1)) dX12_feed_13 (by decide) ?_
    cases h
    exact go_iret dX12_feed_14 rfl hK
theorem ctX12_feed {w : go_Wd} {tx : Nat} {μ : PM} {a0 : Int32} {a1 : Int32} {a2 : Int32} {a3 : Int32} {a4 : Int32} {r : Int32} {μ1 : PM}  (h : fX12_feed μ a0 a1 a2 a3 a4 = some (r, μ1)) : Ct w 1 0 0 mtX12_feed [.ref 401, .int a0, .int a1, .int a2, .int a3, .int a4] (go_mk tx μ) (fun r' M' => r' = some (.int r) ∧ M' = go_mk tx μ1) :=
  go_entry rfl (by decide) (Nat.le_of_ble_eq_true rfl) (cmX12_feed w tx _ μ a0 a1 a2 a3 a4 _ h ⟨rfl, rfl⟩)
def fX12_end (μ : PM) (a0 : Int32) : Int32 × PM :=
  (if (fX12_isIn a0 0 (μ.1 401 4)) = 0 then ((-1), μ) else go_let (pm_wi μ 401 4 a0) fun μ1 => (a0, μ1))
set_option maxRecDepth 20000 in
set_option maxHeartbeats 4000000 in
theorem cmX12_end (w : go_Wd) (tx : Nat) (Q : Option Value → go_M → Prop) (μ : PM) (a0 : Int32) (out : Int32 × PM) (h : fX12_end μ a0 = out) (hK : Q (some (.int out.1)) (go_mk tx out.2)) : Go w 1 0 0 mtX12_end 0 [(0, .ref 401), (1, .int a0)] [] (go_mk tx μ) (go_Z w Q) := by
  unfold fX12_end at h
  refine go_iload_n dX12_end_0 1 rfl ?_
  refine go_iconst (v := 0) dX12_end_1 (by decide) ?_
  refine go_aload_n dX12_end_2 0 rfl ?_
  refine pp_getI dX12_end_3 ff_X12_87 (by decide) sh_401 ?_
  refine pp_callS (as := [.int a0, .int 0, .int (μ.1 401 4)]) (st := []) (rv := (some (.int (fX12_isIn a0 0 (μ.1 401 4))))) (μ1 := μ) (st1 := [.int (fX12_isIn a0 0 (μ.1 401 4))]) dX12_end_6 ll_X12_63 (ctX12_isIn  rfl) rfl (Nat.le_of_ble_eq_true rfl) (Nat.le_of_ble_eq_true rfl) (go_Z_up w _) rfl rfl ?_
  refine go_if_ne 14 dX12_end_9 (by decide) (fun hc => ?_) (fun hc => ?_)
  · have h := go_ifn hc h
    refine go_aload_n dX12_end_14 0 rfl ?_
    refine go_iload_n dX12_end_15 1 rfl ?_
    obtain ⟨μ1, hμ1, h⟩ := go_let_e h
    refine pp_putI dX12_end_16 ff_X12_87 (Or.inl rfl) sh_401 hμ1 ?_
    refine go_iload_n dX12_end_19 1 rfl ?_
    subst h
    exact go_iret dX12_end_20 rfl hK
  · have h := go_ifp hc h
    refine go_iconst (v := (-1)) dX12_end_12 (by decide) ?_
    subst h
    exact go_iret dX12_end_13 rfl hK
theorem ctX12_end {w : go_Wd} {tx : Nat} {μ : PM} {a0 : Int32} {r : Int32} {μ1 : PM}  (h : fX12_end μ a0 = (r, μ1)) : Ct w 1 0 0 mtX12_end [.ref 401, .int a0] (go_mk tx μ) (fun r' M' => r' = some (.int r) ∧ M' = go_mk tx μ1) :=
  go_entry rfl (by decide) (Nat.le_of_ble_eq_true rfl) (cmX12_end w tx _ μ a0 _ h ⟨rfl, rfl⟩)
def fX12_byteAt (μ : PM) (a0 : Int32) : Option (Int32) :=
  (if (μ.1 401 4) ≤ a0 then some ((-1)) else go_chk a0 300 <| some ((μ.1 405 a0.toNatClampNeg)))
set_option maxRecDepth 20000 in
set_option maxHeartbeats 4000000 in
theorem cmX12_byteAt (w : go_Wd) (tx : Nat) (Q : Option Value → go_M → Prop) (μ : PM) (a0 : Int32) (out : Int32) (h : fX12_byteAt μ a0 = some out) (hK : Q (some (.int out)) (go_mk tx μ)) : Go w 0 0 0 mtX12_byteAt 0 [(0, .ref 401), (1, .int a0)] [] (go_mk tx μ) (go_Z w Q) := by
  unfold fX12_byteAt at h
  refine go_iload_n dX12_byteAt_0 1 rfl ?_
  refine go_aload_n dX12_byteAt_1 0 rfl ?_
  refine pp_getI dX12_byteAt_2 ff_X12_87 (by decide) sh_401 ?_
  refine go_icmp_ge 17 dX12_byteAt_5 (by decide) (fun hc => ?_) (fun hc => ?_)
  · have h := go_ifp hc h
    refine go_iconst (v := (-1)) dX12_byteAt_17 (by decide) ?_
    cases h
    exact go_iret dX12_byteAt_18 rfl hK
  · have h := go_ifn hc h
    refine go_aload_n dX12_byteAt_8 0 rfl ?_
    refine pp_getR dX12_byteAt_9 ff_X12_19 (Or.inr ⟨_, rfl⟩) sh_401 rf_401_3 ?_
    refine go_iload_n dX12_byteAt_12 1 rfl ?_
    obtain ⟨hz1, h⟩ := go_chk_e h
    refine pp_ild dX12_byteAt_13 sh_405 hz1 ?_
    refine go_goto 18 dX12_byteAt_14 (by decide) ?_
    cases h
    exact go_iret dX12_byteAt_18 rfl hK
theorem ctX12_byteAt {w : go_Wd} {tx : Nat} {μ : PM} {a0 : Int32} {r : Int32}  (h : fX12_byteAt μ a0 = some r) : Ct w 0 0 0 mtX12_byteAt [.ref 401, .int a0] (go_mk tx μ) (fun r' M' => r' = some (.int r) ∧ M' = go_mk tx μ) :=
  go_entry rfl (by decide) (Nat.le_of_ble_eq_true rfl) (cmX12_byteAt w tx _ μ a0 _ h ⟨rfl, rfl⟩)
def jjX12_isLetterByte_12 (a0 : Int32)   : Int32 :=
  (if a0 < 65 then 0 else (if 90 < a0 then 0 else 1))
def fX12_isLetterByte (a0 : Int32) : Int32 :=
  (if a0 < 97 then jjX12_isLetterByte_12 a0 else (if a0 ≤ 122 then 1 else jjX12_isLetterByte_12 a0))
set_option maxRecDepth 20000 in
set_option maxHeartbeats 4000000 in
theorem jqX12_isLetterByte_12 (w : go_Wd) (tx : Nat) (Q : Option Value → go_M → Prop) (μ : PM) (a0 : Int32)     (out : Int32) (h : jjX12_isLetterByte_12 a0   = out) (hK : Q (some (.int out)) (go_mk tx μ)) : Go w 0 0 0 mtX12_isLetterByte 12 [(0, .int a0)] [] (go_mk tx μ) (go_Z w Q) := by
  unfold jjX12_isLetterByte_12 at h
  refine go_iload_n dX12_isLetterByte_12 0 rfl ?_
  refine go_bipush (v := 65) dX12_isLetterByte_13 (by decide) ?_
  refine go_icmp_lt 28 dX12_isLetterByte_15 (by decide) (fun hc => ?_) (fun hc => ?_)
  · have h := go_ifp hc h
    refine go_iconst (v := 0) dX12_isLetterByte_28 (by decide) ?_
    subst h
    exact go_zret dX12_isLetterByte_29 rfl (Or.inl rfl) hK
  · have h := go_ifn hc h
    refine go_iload_n dX12_isLetterByte_18 0 rfl ?_
    refine go_bipush (v := 90) dX12_isLetterByte_19 (by decide) ?_
    refine go_icmp_gt 28 dX12_isLetterByte_21 (by decide) (fun hc => ?_) (fun hc => ?_)
    · have h := go_ifp hc h
      refine go_iconst (v := 0) dX12_isLetterByte_28 (by decide) ?_
      subst h
      exact go_zret dX12_isLetterByte_29 rfl (Or.inl rfl) hK
    · have h := go_ifn hc h
      refine go_iconst (v := 1) dX12_isLetterByte_24 (by decide) ?_
      refine go_goto 29 dX12_isLetterByte_25 (by decide) ?_
      subst h
      exact go_zret dX12_isLetterByte_29 rfl (Or.inr rfl) hK
set_option maxRecDepth 20000 in
set_option maxHeartbeats 4000000 in
theorem cmX12_isLetterByte (w : go_Wd) (tx : Nat) (Q : Option Value → go_M → Prop) (μ : PM) (a0 : Int32) (out : Int32) (h : fX12_isLetterByte a0 = out) (hK : Q (some (.int out)) (go_mk tx μ)) : Go w 0 0 0 mtX12_isLetterByte 0 [(0, .int a0)] [] (go_mk tx μ) (go_Z w Q) := by
  unfold fX12_isLetterByte at h
  refine go_iload_n dX12_isLetterByte_0 0 rfl ?_
  refine go_bipush (v := 97) dX12_isLetterByte_1 (by decide) ?_
  refine go_icmp_lt 12 dX12_isLetterByte_3 (by decide) (fun hc => ?_) (fun hc => ?_)
  · have h := go_ifp hc h
    refine go_pick [0] rfl ?_
    exact jqX12_isLetterByte_12 w tx Q μ a0     _ h hK
  · have h := go_ifn hc h
    refine go_iload_n dX12_isLetterByte_6 0 rfl ?_
    refine go_bipush (v := 122) dX12_isLetterByte_7 (by decide) ?_
    refine go_icmp_le 24 dX12_isLetterByte_9 (by decide) (fun hc => ?_) (fun hc => ?_)
    · have h := go_ifp hc h
      refine go_iconst (v := 1) dX12_isLetterByte_24 (by decide) ?_
      refine go_goto 29 dX12_isLetterByte_25 (by decide) ?_
      subst h
      exact go_zret dX12_isLetterByte_29 rfl (Or.inr rfl) hK
    · have h := go_ifn hc h
      refine go_pick [0] rfl ?_
      exact jqX12_isLetterByte_12 w tx Q μ a0     _ h hK
theorem ctX12_isLetterByte {w : go_Wd} {tx : Nat} {μ : PM} {a0 : Int32} {r : Int32}  (h : fX12_isLetterByte a0 = r) : Ct w 0 0 0 mtX12_isLetterByte [.int a0] (go_mk tx μ) (fun r' M' => r' = some (.int r) ∧ M' = go_mk tx μ) :=
  go_entry rfl (by decide) (Nat.le_of_ble_eq_true rfl) (cmX12_isLetterByte w tx _ μ a0 _ h ⟨rfl, rfl⟩)
theorem bzX12_isLetterByte {a0 : Int32} {r : Int32} (h : fX12_isLetterByte a0 = r) : r = 0 ∨ r = 1 := by
  subst h
  show go_bi _
  unfold fX12_isLetterByte jjX12_isLetterByte_12
  repeat' first | exact bi_0 | exact bi_1 | with_reducible apply bi_ite
def fX12_isFigure (a0 : Int32) : Int32 :=
  (if a0 < 48 then 0 else (if 57 < a0 then 0 else 1))
set_option maxRecDepth 20000 in
set_option maxHeartbeats 4000000 in
theorem cmX12_isFigure (w : go_Wd) (tx : Nat) (Q : Option Value → go_M → Prop) (μ : PM) (a0 : Int32) (out : Int32) (h : fX12_isFigure a0 = out) (hK : Q (some (.int out)) (go_mk tx μ)) : Go w 0 0 0 mtX12_isFigure 0 [(0, .int a0)] [] (go_mk tx μ) (go_Z w Q) := by
  unfold fX12_isFigure at h
  refine go_iload_n dX12_isFigure_0 0 rfl ?_
  refine go_bipush (v := 48) dX12_isFigure_1 (by decide) ?_
  refine go_icmp_lt 16 dX12_isFigure_3 (by decide) (fun hc => ?_) (fun hc => ?_)
  · have h := go_ifp hc h
    refine go_iconst (v := 0) dX12_isFigure_16 (by decide) ?_
    subst h
    exact go_zret dX12_isFigure_17 rfl (Or.inl rfl) hK
  · have h := go_ifn hc h
    refine go_iload_n dX12_isFigure_6 0 rfl ?_
    refine go_bipush (v := 57) dX12_isFigure_7 (by decide) ?_
    refine go_icmp_gt 16 dX12_isFigure_9 (by decide) (fun hc => ?_) (fun hc => ?_)
    · have h := go_ifp hc h
      refine go_iconst (v := 0) dX12_isFigure_16 (by decide) ?_
      subst h
      exact go_zret dX12_isFigure_17 rfl (Or.inl rfl) hK
    · have h := go_ifn hc h
      refine go_iconst (v := 1) dX12_isFigure_12 (by decide) ?_
      refine go_goto 17 dX12_isFigure_13 (by decide) ?_
      subst h
      exact go_zret dX12_isFigure_17 rfl (Or.inr rfl) hK
theorem ctX12_isFigure {w : go_Wd} {tx : Nat} {μ : PM} {a0 : Int32} {r : Int32}  (h : fX12_isFigure a0 = r) : Ct w 0 0 0 mtX12_isFigure [.int a0] (go_mk tx μ) (fun r' M' => r' = some (.int r) ∧ M' = go_mk tx μ) :=
  go_entry rfl (by decide) (Nat.le_of_ble_eq_true rfl) (cmX12_isFigure w tx _ μ a0 _ h ⟨rfl, rfl⟩)
theorem bzX12_isFigure {a0 : Int32} {r : Int32} (h : fX12_isFigure a0 = r) : r = 0 ∨ r = 1 := by
  subst h
  show go_bi _
  unfold fX12_isFigure
  repeat' first | exact bi_0 | exact bi_1 | with_reducible apply bi_ite
def fX12_isSign (a0 : Int32) : Int32 :=
  (if a0 = 35 then 1 else (if a0 = 36 then 0 else (if a0 = 37 then 0 else (if a0 = 38 then 0 else (if a0 = 39 then 0 else (if a0 = 40 then 1 else (if a0 = 41 then 1 else (if a0 = 42 then 1 else (if a0 = 43 then 1 else (if a0 = 44 then 0 else (if a0 = 45 then 1 else (if a0 = 46 then 0 else (if a0 = 47 then 1 else (if a0 = 48 then 0 else (if a0 = 49 then 0 else (if a0 = 50 then 0 else (if a0 = 51 then 0 else (if a0 = 52 then 0 else (if a0 = 53 then 0 else (if a0 = 54 then 0 else (if a0 = 55 then 0 else (if a0 = 56 then 0 else (if a0 = 57 then 0 else (if a0 = 58 then 1 else (if a0 = 59 then 1 else (if a0 = 60 then 1 else (if a0 = 61 then 1 else (if a0 = 62 then 1 else 0))))))))))))))))))))))))))))
set_option maxRecDepth 20000 in
set_option maxHeartbeats 4000000 in
theorem cmX12_isSign (w : go_Wd) (tx : Nat) (Q : Option Value → go_M → Prop) (μ : PM) (a0 : Int32) (out : Int32) (h : fX12_isSign a0 = out) (hK : Q (some (.int out)) (go_mk tx μ)) : Go w 0 0 0 mtX12_isSign 0 [(0, .int a0)] [] (go_mk tx μ) (go_Z w Q) := by
  unfold fX12_isSign at h
  refine go_iload_n dX12_isSign_0 0 rfl ?_
  by_cases hc1 : a0 = 35
  · have h := go_ifp hc1 h
    refine go_tabIn (off := 127) 128 dX12_isSign_1 35 hc1 (by decide) (by decide) (by decide) (by decide) ?_
    refine go_iconst (v := 1) dX12_isSign_128 (by decide) ?_
    subst h
    exact go_zret dX12_isSign_129 rfl (Or.inr rfl) hK
  · have h := go_ifn hc1 h
    by_cases hc2 : a0 = 36
    · have h := go_ifp hc2 h
      refine go_tabIn (off := 129) 130 dX12_isSign_1 36 hc2 (by decide) (by decide) (by decide) (by decide) ?_
      refine go_iconst (v := 0) dX12_isSign_130 (by decide) ?_
      subst h
      exact go_zret dX12_isSign_131 rfl (Or.inl rfl) hK
    · have h := go_ifn hc2 h
      by_cases hc3 : a0 = 37
      · have h := go_ifp hc3 h
        refine go_tabIn (off := 129) 130 dX12_isSign_1 37 hc3 (by decide) (by decide) (by decide) (by decide) ?_
        refine go_iconst (v := 0) dX12_isSign_130 (by decide) ?_
        subst h
        exact go_zret dX12_isSign_131 rfl (Or.inl rfl) hK
      · have h := go_ifn hc3 h
        by_cases hc4 : a0 = 38
        · have h := go_ifp hc4 h
          refine go_tabIn (off := 129) 130 dX12_isSign_1 38 hc4 (by decide) (by decide) (by decide) (by decide) ?_
          refine go_iconst (v := 0) dX12_isSign_130 (by decide) ?_
          subst h
          exact go_zret dX12_isSign_131 rfl (Or.inl rfl) hK
        · have h := go_ifn hc4 h
          by_cases hc5 : a0 = 39
          · have h := go_ifp hc5 h
            refine go_tabIn (off := 129) 130 dX12_isSign_1 39 hc5 (by decide) (by decide) (by decide) (by decide) ?_
            refine go_iconst (v := 0) dX12_isSign_130 (by decide) ?_
            subst h
            exact go_zret dX12_isSign_131 rfl (Or.inl rfl) hK
          · have h := go_ifn hc5 h
            by_cases hc6 : a0 = 40
            · have h := go_ifp hc6 h
              refine go_tabIn (off := 127) 128 dX12_isSign_1 40 hc6 (by decide) (by decide) (by decide) (by decide) ?_
              refine go_iconst (v := 1) dX12_isSign_128 (by decide) ?_
              subst h
              exact go_zret dX12_isSign_129 rfl (Or.inr rfl) hK
            · have h := go_ifn hc6 h
              by_cases hc7 : a0 = 41
              · have h := go_ifp hc7 h
                refine go_tabIn (off := 127) 128 dX12_isSign_1 41 hc7 (by decide) (by decide) (by decide) (by decide) ?_
                refine go_iconst (v := 1) dX12_isSign_128 (by decide) ?_
                subst h
                exact go_zret dX12_isSign_129 rfl (Or.inr rfl) hK
              · have h := go_ifn hc7 h
                by_cases hc8 : a0 = 42
                · have h := go_ifp hc8 h
                  refine go_tabIn (off := 127) 128 dX12_isSign_1 42 hc8 (by decide) (by decide) (by decide) (by decide) ?_
                  refine go_iconst (v := 1) dX12_isSign_128 (by decide) ?_
                  subst h
                  exact go_zret dX12_isSign_129 rfl (Or.inr rfl) hK
                · have h := go_ifn hc8 h
                  by_cases hc9 : a0 = 43
                  · have h := go_ifp hc9 h
                    refine go_tabIn (off := 127) 128 dX12_isSign_1 43 hc9 (by decide) (by decide) (by decide) (by decide) ?_
                    refine go_iconst (v := 1) dX12_isSign_128 (by decide) ?_
                    subst h
                    exact go_zret dX12_isSign_129 rfl (Or.inr rfl) hK
                  · have h := go_ifn hc9 h
                    by_cases hc10 : a0 = 44
                    · have h := go_ifp hc10 h
                      refine go_tabIn (off := 129) 130 dX12_isSign_1 44 hc10 (by decide) (by decide) (by decide) (by decide) ?_
                      refine go_iconst (v := 0) dX12_isSign_130 (by decide) ?_
                      subst h
                      exact go_zret dX12_isSign_131 rfl (Or.inl rfl) hK
                    · have h := go_ifn hc10 h
                      by_cases hc11 : a0 = 45
                      · have h := go_ifp hc11 h
                        refine go_tabIn (off := 127) 128 dX12_isSign_1 45 hc11 (by decide) (by decide) (by decide) (by decide) ?_
                        refine go_iconst (v := 1) dX12_isSign_128 (by decide) ?_
                        subst h
                        exact go_zret dX12_isSign_129 rfl (Or.inr rfl) hK
                      · have h := go_ifn hc11 h
                        by_cases hc12 : a0 = 46
                        · have h := go_ifp hc12 h
                          refine go_tabIn (off := 129) 130 dX12_isSign_1 46 hc12 (by decide) (by decide) (by decide) (by decide) ?_
                          refine go_iconst (v := 0) dX12_isSign_130 (by decide) ?_
                          subst h
                          exact go_zret dX12_isSign_131 rfl (Or.inl rfl) hK
                        · have h := go_ifn hc12 h
                          by_cases hc13 : a0 = 47
                          · have h := go_ifp hc13 h
                            refine go_tabIn (off := 127) 128 dX12_isSign_1 47 hc13 (by decide) (by decide) (by decide) (by decide) ?_
                            refine go_iconst (v := 1) dX12_isSign_128 (by decide) ?_
                            subst h
                            exact go_zret dX12_isSign_129 rfl (Or.inr rfl) hK
                          · have h := go_ifn hc13 h
                            by_cases hc14 : a0 = 48
                            · have h := go_ifp hc14 h
                              refine go_tabIn (off := 129) 130 dX12_isSign_1 48 hc14 (by decide) (by decide) (by decide) (by decide) ?_
                              refine go_iconst (v := 0) dX12_isSign_130 (by decide) ?_
                              subst h
                              exact go_zret dX12_isSign_131 rfl (Or.inl rfl) hK
                            · have h := go_ifn hc14 h
                              by_cases hc15 : a0 = 49
                              · have h := go_ifp hc15 h
                                refine go_tabIn (off := 129) 130 dX12_isSign_1 49 hc15 (by decide) (by decide) (by decide) (by decide) ?_
                                refine go_iconst (v := 0) dX12_isSign_130 (by decide) ?_
                                subst h
                                exact go_zret dX12_isSign_131 rfl (Or.inl rfl) hK
                              · have h := go_ifn hc15 h
                                by_cases hc16 : a0 = 50
                                · have h := go_ifp hc16 h
                                  refine go_tabIn (off := 129) 130 dX12_isSign_1 50 hc16 (by decide) (by decide) (by decide) (by decide) ?_
                                  refine go_iconst (v := 0) dX12_isSign_130 (by decide) ?_
                                  subst h
                                  exact go_zret dX12_isSign_131 rfl (Or.inl rfl) hK
                                · have h := go_ifn hc16 h
                                  by_cases hc17 : a0 = 51
                                  · have h := go_ifp hc17 h
                                    refine go_tabIn (off := 129) 130 dX12_isSign_1 51 hc17 (by decide) (by decide) (by decide) (by decide) ?_
                                    refine go_iconst (v := 0) dX12_isSign_130 (by decide) ?_
                                    subst h
                                    exact go_zret dX12_isSign_131 rfl (Or.inl rfl) hK
                                  · have h := go_ifn hc17 h
                                    by_cases hc18 : a0 = 52
                                    · have h := go_ifp hc18 h
                                      refine go_tabIn (off := 129) 130 dX12_isSign_1 52 hc18 (by decide) (by decide) (by decide) (by decide) ?_
                                      refine go_iconst (v := 0) dX12_isSign_130 (by decide) ?_
                                      subst h
                                      exact go_zret dX12_isSign_131 rfl (Or.inl rfl) hK
                                    · have h := go_ifn hc18 h
                                      by_cases hc19 : a0 = 53
                                      · have h := go_ifp hc19 h
                                        refine go_tabIn (off := 129) 130 dX12_isSign_1 53 hc19 (by decide) (by decide) (by decide) (by decide) ?_
                                        refine go_iconst (v := 0) dX12_isSign_130 (by decide) ?_
                                        subst h
                                        exact go_zret dX12_isSign_131 rfl (Or.inl rfl) hK
                                      · have h := go_ifn hc19 h
                                        by_cases hc20 : a0 = 54
                                        · have h := go_ifp hc20 h
                                          refine go_tabIn (off := 129) 130 dX12_isSign_1 54 hc20 (by decide) (by decide) (by decide) (by decide) ?_
                                          refine go_iconst (v := 0) dX12_isSign_130 (by decide) ?_
                                          subst h
                                          exact go_zret dX12_isSign_131 rfl (Or.inl rfl) hK
                                        · have h := go_ifn hc20 h
                                          by_cases hc21 : a0 = 55
                                          · have h := go_ifp hc21 h
                                            refine go_tabIn (off := 129) 130 dX12_isSign_1 55 hc21 (by decide) (by decide) (by decide) (by decide) ?_
                                            refine go_iconst (v := 0) dX12_isSign_130 (by decide) ?_
                                            subst h
                                            exact go_zret dX12_isSign_131 rfl (Or.inl rfl) hK
                                          · have h := go_ifn hc21 h
                                            by_cases hc22 : a0 = 56
                                            · have h := go_ifp hc22 h
                                              refine go_tabIn (off := 129) 130 dX12_isSign_1 56 hc22 (by decide) (by decide) (by decide) (by decide) ?_
                                              refine go_iconst (v := 0) dX12_isSign_130 (by decide) ?_
                                              subst h
                                              exact go_zret dX12_isSign_131 rfl (Or.inl rfl) hK
                                            · have h := go_ifn hc22 h
                                              by_cases hc23 : a0 = 57
                                              · have h := go_ifp hc23 h
                                                refine go_tabIn (off := 129) 130 dX12_isSign_1 57 hc23 (by decide) (by decide) (by decide) (by decide) ?_
                                                refine go_iconst (v := 0) dX12_isSign_130 (by decide) ?_
                                                subst h
                                                exact go_zret dX12_isSign_131 rfl (Or.inl rfl) hK
                                              · have h := go_ifn hc23 h
                                                by_cases hc24 : a0 = 58
                                                · have h := go_ifp hc24 h
                                                  refine go_tabIn (off := 127) 128 dX12_isSign_1 58 hc24 (by decide) (by decide) (by decide) (by decide) ?_
                                                  refine go_iconst (v := 1) dX12_isSign_128 (by decide) ?_
                                                  subst h
                                                  exact go_zret dX12_isSign_129 rfl (Or.inr rfl) hK
                                                · have h := go_ifn hc24 h
                                                  by_cases hc25 : a0 = 59
                                                  · have h := go_ifp hc25 h
                                                    refine go_tabIn (off := 127) 128 dX12_isSign_1 59 hc25 (by decide) (by decide) (by decide) (by decide) ?_
                                                    refine go_iconst (v := 1) dX12_isSign_128 (by decide) ?_
                                                    subst h
                                                    exact go_zret dX12_isSign_129 rfl (Or.inr rfl) hK
                                                  · have h := go_ifn hc25 h
                                                    by_cases hc26 : a0 = 60
                                                    · have h := go_ifp hc26 h
                                                      refine go_tabIn (off := 127) 128 dX12_isSign_1 60 hc26 (by decide) (by decide) (by decide) (by decide) ?_
                                                      refine go_iconst (v := 1) dX12_isSign_128 (by decide) ?_
                                                      subst h
                                                      exact go_zret dX12_isSign_129 rfl (Or.inr rfl) hK
                                                    · have h := go_ifn hc26 h
                                                      by_cases hc27 : a0 = 61
                                                      · have h := go_ifp hc27 h
                                                        refine go_tabIn (off := 127) 128 dX12_isSign_1 61 hc27 (by decide) (by decide) (by decide) (by decide) ?_
                                                        refine go_iconst (v := 1) dX12_isSign_128 (by decide) ?_
                                                        subst h
                                                        exact go_zret dX12_isSign_129 rfl (Or.inr rfl) hK
                                                      · have h := go_ifn hc27 h
                                                        by_cases hc28 : a0 = 62
                                                        · have h := go_ifp hc28 h
                                                          refine go_tabIn (off := 127) 128 dX12_isSign_1 62 hc28 (by decide) (by decide) (by decide) (by decide) ?_
                                                          refine go_iconst (v := 1) dX12_isSign_128 (by decide) ?_
                                                          subst h
                                                          exact go_zret dX12_isSign_129 rfl (Or.inr rfl) hK
                                                        · have h := go_ifn hc28 h
                                                          refine go_tabOut 130 dX12_isSign_1 (by have g0 := go_ne_i (n := 35) hc1 (by decide); have g1 := go_ne_i (n := 36) hc2 (by decide); have g2 := go_ne_i (n := 37) hc3 (by decide); have g3 := go_ne_i (n := 38) hc4 (by decide); have g4 := go_ne_i (n := 39) hc5 (by decide); have g5 := go_ne_i (n := 40) hc6 (by decide); have g6 := go_ne_i (n := 41) hc7 (by decide); have g7 := go_ne_i (n := 42) hc8 (by decide); have g8 := go_ne_i (n := 43) hc9 (by decide); have g9 := go_ne_i (n := 44) hc10 (by decide); have g10 := go_ne_i (n := 45) hc11 (by decide); have g11 := go_ne_i (n := 46) hc12 (by decide); have g12 := go_ne_i (n := 47) hc13 (by decide); have g13 := go_ne_i (n := 48) hc14 (by decide); have g14 := go_ne_i (n := 49) hc15 (by decide); have g15 := go_ne_i (n := 50) hc16 (by decide); have g16 := go_ne_i (n := 51) hc17 (by decide); have g17 := go_ne_i (n := 52) hc18 (by decide); have g18 := go_ne_i (n := 53) hc19 (by decide); have g19 := go_ne_i (n := 54) hc20 (by decide); have g20 := go_ne_i (n := 55) hc21 (by decide); have g21 := go_ne_i (n := 56) hc22 (by decide); have g22 := go_ne_i (n := 57) hc23 (by decide); have g23 := go_ne_i (n := 58) hc24 (by decide); have g24 := go_ne_i (n := 59) hc25 (by decide); have g25 := go_ne_i (n := 60) hc26 (by decide); have g26 := go_ne_i (n := 61) hc27 (by decide); have g27 := go_ne_i (n := 62) hc28 (by decide); omega) (by decide) ?_
                                                          refine go_iconst (v := 0) dX12_isSign_130 (by decide) ?_
                                                          subst h
                                                          exact go_zret dX12_isSign_131 rfl (Or.inl rfl) hK
theorem ctX12_isSign {w : go_Wd} {tx : Nat} {μ : PM} {a0 : Int32} {r : Int32}  (h : fX12_isSign a0 = r) : Ct w 0 0 0 mtX12_isSign [.int a0] (go_mk tx μ) (fun r' M' => r' = some (.int r) ∧ M' = go_mk tx μ) :=
  go_entry rfl (by decide) (Nat.le_of_ble_eq_true rfl) (cmX12_isSign w tx _ μ a0 _ h ⟨rfl, rfl⟩)
theorem bzX12_isSign {a0 : Int32} {r : Int32} (h : fX12_isSign a0 = r) : r = 0 ∨ r = 1 := by
  subst h
  show go_bi _
  unfold fX12_isSign
  repeat' first | exact bi_0 | exact bi_1 | with_reducible apply bi_ite