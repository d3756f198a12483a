def fX11_text_T (μ : PM) (v1 : Int32) (v2 : Nat) : Int32 × PM :=
  go_let (pm_wi μ 0 13 0) fun μ1 => go_let (pm_wi μ1 0 14 1) fun μ2 => go_let (pm_wi μ2 0 15 (μ2.1 372 8)) fun μ3 => go_let (pm_wi μ3 0 16 (μ3.1 372 9)) fun μ4 => (if (μ4.1 0 15) = 0 then go_let (pm_wi μ4 1 13 ((μ4.1 1 13) + 1)) fun μ5 => (v1, μ5) else ((-1), μ4))
set_option maxRecDepth 20000 in
set_option maxHeartbeats 4000000 in
theorem cmX11_text_T (w : go_Wd) (tx : Nat) (Q : Option Value → go_M → Prop) (μ : PM) (v1 : Int32) (v2 : Nat) (out : Int32 × PM) (h : fX11_text_T μ v1 v2 = out) (hK : Q (some (.int out.1)) (go_mk tx out.2)) : Go w 543 0 0 mtX11_text 44 [(0, .ref 0), (1, .int v1)] [] (go_mk tx μ) (go_Z w Q) := by
  unfold fX11_text_T at h
  refine go_aload_n dX11_text_44 0 rfl ?_
  refine go_iconst (v := 0) dX11_text_45 (by decide) ?_
  obtain ⟨μ1, hμ1, h⟩ := go_let_e h
  refine pp_putI dX11_text_46 ff_X11_140 (Or.inl rfl) sh_0 hμ1 ?_
  refine go_aload_n dX11_text_49 0 rfl ?_
  refine go_iconst (v := 1) dX11_text_50 (by decide) ?_
  obtain ⟨μ2, hμ2, h⟩ := go_let_e h
  refine pp_putI dX11_text_51 ff_X11_153 (Or.inr ⟨rfl, (Or.inr rfl)⟩) sh_0 hμ2 ?_
  refine go_aload_n dX11_text_54 0 rfl ?_
  refine go_aload_n dX11_text_55 0 rfl ?_
  refine pp_getR dX11_text_56 ff_X11_46 (Or.inl ⟨_, rfl⟩) sh_0 rf_0_6 ?_
  refine pp_getI dX11_text_59 ff_X11_157 (by decide) sh_372 ?_
  obtain ⟨μ3, hμ3, h⟩ := go_let_e h
  refine pp_putI dX11_text_62 ff_X11_160 (Or.inl rfl) sh_0 hμ3 ?_
  refine go_aload_n dX11_text_65 0 rfl ?_
  refine go_aload_n dX11_text_66 0 rfl ?_
  refine pp_getR dX11_text_67 ff_X11_46 (Or.inl ⟨_, rfl⟩) sh_0 rf_0_6 ?_
  refine pp_getI dX11_text_70 ff_X11_163 (by decide) sh_372 ?_
  obtain ⟨μ4, hμ4, h⟩ := go_let_e h
  refine pp_putI dX11_text_73 ff_X11_98 (Or.inl rfl) sh_0 hμ4 ?_
  refine go_aload_n dX11_text_76 0 rfl ?_
  refine pp_getI dX11_text_77 ff_X11_160 (by decide) sh_0 ?_
  refine go_if_eq 85 dX11_text_80 (by decide) (fun hc => ?_) (fun hc => ?_)
  · have h := go_ifp hc h
    refine go_aload_n dX11_text_85 0 rfl ?_
    refine pp_getR dX11_text_86 ff_X11_10 (Or.inl ⟨_, rfl⟩) sh_0 rf_0_0 ?_
    refine go_dup dX11_text_89 rfl ?_
    refine pp_getI dX11_text_90 ff_X11_147 (by decide) go_isV_1.1 ?_
    refine go_iconst (v := 1) dX11_text_93 (by decide) ?_
    refine go_iadd dX11_text_94 ?_
    obtain ⟨μ5, hμ5, h⟩ := go_let_e h
    refine pp_putI dX11_text_95 ff_X11_147 (Or.inl rfl) go_isV_1.1 hμ5 ?_
    refine go_iload_n dX11_text_98 1 rfl ?_
    subst h
    exact go_iret dX11_text_99 rfl hK
  · have h := go_ifn hc h
    refine go_iconst (v := (-1)) dX11_text_83 (by decide) ?_
    subst h
    exact go_iret dX11_text_84 rfl hK
/-- text(): the answer, the reader's new text if it was read, the memory -/
def fX11_text (μ : PM) : Option (Int32 × Option Nat × PM) :=
  go_let (μ.1 1 13) fun x => (if x < 0 then some (-1, none, μ) else (if x < 4 then go_chk x 4 <| (fX6_readInto (343 + 7 * x.toNatClampNeg) μ (μ.1 0 13)).bind fun q => go_let (fX11_text_T q x (343 + 7 * x.toNatClampNeg)) fun z => some (z.1, some (343 + 7 * x.toNatClampNeg), z.2) else some (-1, none, μ)))
theorem ctX11_text {w : go_Wd} {tx : Nat} {μ : PM} {r : Int32} {o : Option Nat} {μ1 : PM} (h : fX11_text μ = some (r, o, μ1)) : Ct w 543 0 0 mtX11_text [.ref 0] (go_mk tx μ) (fun r' M' => r' = some (.int r) ∧ M' = go_mk (o.getD tx) μ1) := by
  unfold fX11_text at h
  obtain ⟨x, hx, h⟩ := go_let_e h
  refine go_entry rfl (by decide) (Nat.le_of_ble_eq_true rfl) ?_
  show Go w 543 0 0 mtX11_text 0 [(0, .ref 0)] [] (go_mk tx μ) (go_Z w _)
  refine go_aload_n dX11_text_0 0 rfl ?_
  refine pp_getR dX11_text_1 ff_X11_10 (Or.inl ⟨_, rfl⟩) sh_0 rf_0_0 ?_
  refine pp_getI dX11_text_4 ff_X11_147 (by decide) go_isV_1.1 ?_
  refine go_top hx ?_
  refine go_istore_n dX11_text_7 (by decide) rfl ?_
  show Go w 543 0 0 mtX11_text 8 [(1, .int x), (0, .ref 0)] [] (go_mk tx μ) (go_Z w _)
  refine go_iload_n dX11_text_8 0 rfl ?_
  refine go_if_lt 17 dX11_text_9 (by decide) (fun hc => ?_) (fun hc => ?_)
  · have h := go_ifp hc h
    cases h
    refine go_iconst (v := (-1)) dX11_text_17 (by decide) ?_
    exact go_iret dX11_text_18 rfl ⟨rfl, rfl⟩
  · have h := go_ifn hc h
    refine go_iload_n dX11_text_12 0 rfl ?_
    refine go_iconst (v := 4) dX11_text_13 (by decide) ?_
    refine go_icmp_lt 19 dX11_text_14 (by decide) (fun hc => ?_) (fun hc => ?_)
    · have h := go_ifp hc h
      obtain ⟨hz, h⟩ := go_chk_e h
      obtain ⟨q, hq, h⟩ := go_bind h
      obtain ⟨z, hz1, h⟩ := go_let_e h
      cases h
      have ht := rf_342 (tx := tx) _ (go_in_lt hz)
      refine go_aload_n dX11_text_19 1 rfl ?_
      refine pp_getR dX11_text_20 ff_X11_32 (Or.inr ⟨_, rfl⟩) sh_0 rf_0_4 ?_
      refine go_iload_n dX11_text_23 0 rfl ?_
      refine pp_ald dX11_text_24 sh_342 (Or.inl rfl) hz ht.1 ?_
      refine go_astore_n dX11_text_25 (by decide) rfl ?_
      show Go w 543 0 0 mtX11_text 26 [(2, .ref (343 + 7 * x.toNatClampNeg)), (1, .int x), (0, .ref 0)] [] (go_mk tx μ) (go_Z w _)
      refine go_aload_n dX11_text_26 0 rfl ?_
      refine go_ifnonnull 32 dX11_text_27 (by decide) ?_
      refine go_aload_n dX11_text_32 2 rfl ?_
      refine pp_getR dX11_text_33 ff_X11_46 (Or.inl ⟨_, rfl⟩) sh_0 rf_0_6 ?_
      refine go_aload_n dX11_text_36 0 rfl ?_
      refine go_aload_n dX11_text_37 2 rfl ?_
      refine pp_getI dX11_text_38 ff_X11_140 (by decide) sh_0 ?_
      refine pp_callV (as := [.ref (343 + 7 * x.toNatClampNeg), .int (μ.1 0 13)]) (st := []) (rv := none) (μ1 := q) (st1 := []) dX11_text_41 ll_X11_149 sh_372 (by decide) rfl (ctX6_readInto ht.2 hq) rfl (Nat.le_of_ble_eq_true rfl) (Nat.le_of_ble_eq_true rfl) (go_Z_up w _) rfl rfl ?_
      refine go_pick [2, 1] rfl ?_
      exact cmX11_text_T w _ _ q x (343 + 7 * x.toNatClampNeg) z hz1.symm ⟨rfl, rfl⟩
    · have h := go_ifn hc h
      cases h
      refine go_iconst (v := (-1)) dX11_text_17 (by decide) ?_
      exact go_iret dX11_text_18 rfl ⟨rfl, rfl⟩