def fX12_stone (μ : PM) (a0 : Int32) (a1 : Int32) : Option (Int32 × PM) :=
  (if (fX12_isCell a0) = 0 then some ((0, μ)) else (if (fX12_has (μ.1 402 10) a0) = a1 then some ((0, μ)) else (fX12_keep μ).bind fun q1 => go_let (pm_wi q1 402 10 ((q1.1 402 10) ^^^ ((1 : Int32) <<< (a0 &&& 31)))) fun μ2 => some ((1, μ2))))
set_option maxRecDepth 20000 in
set_option maxHeartbeats 4000000 in
theorem cmX12_stone (w : go_Wd) (tx : Nat) (Q : Option Value → go_M → Prop) (μ : PM) (a0 : Int32) (a1 : Int32) (out : Int32 × PM) (h : fX12_stone μ a0 a1 = some out) (hK : Q (some (.int out.1)) (go_mk tx out.2)) : Go w 2 0 0 mtX12_stone 0 [(0, .ref 401), (1, .int a0), (2, .int a1)] [] (go_mk tx μ) (go_Z w Q) := by
  unfold fX12_stone at h
  refine go_iload_n dX12_stone_0 1 rfl ?_
  refine pp_callS (as := [.int a0]) (st := []) (rv := (some (.int (fX12_isCell a0)))) (μ1 := μ) (st1 := [.int (fX12_isCell a0)]) dX12_stone_1 ll_X12_84 (ctX12_isCell  rfl) rfl (Nat.le_of_ble_eq_true rfl) (Nat.le_of_ble_eq_true rfl) (go_Z_up w _) rfl rfl ?_
  refine go_if_eq 22 dX12_stone_4 (by decide) (fun hc => ?_) (fun hc => ?_)
  · have h := go_ifp hc h
    refine go_iconst (v := 0) dX12_stone_22 (by decide) ?_
    cases h
    exact go_zret dX12_stone_23 rfl (Or.inl rfl) hK
  · have h := go_ifn hc h
    refine go_aload_n dX12_stone_7 0 rfl ?_
    refine pp_getR dX12_stone_8 ff_X12_7 (Or.inr ⟨_, rfl⟩) sh_401 rf_401_0 ?_
    refine go_bipush (v := 10) dX12_stone_11 (by decide) ?_
    refine pp_ildc (q := 10) dX12_stone_13 sh_402 (by decide) ?_
    refine go_iload_n dX12_stone_14 1 rfl ?_
    refine pp_callS (as := [.int (μ.1 402 10), .int a0]) (st := []) (rv := (some (.int (fX12_has (μ.1 402 10) a0)))) (μ1 := μ) (st1 := [.int (fX12_has (μ.1 402 10) a0)]) dX12_stone_15 ll_X12_239 (ctX12_has  rfl) rfl (Nat.le_of_ble_eq_true rfl) (Nat.le_of_ble_eq_true rfl) (go_Z_up w _) rfl rfl ?_
    refine go_iload_n dX12_stone_18 2 rfl ?_
    refine go_icmp_ne 24 dX12_stone_19 (by decide) (fun hc => ?_) (fun hc => ?_)
    · have h := go_ifn hc h
      refine go_aload_n dX12_stone_24 0 rfl ?_
      obtain ⟨q1, hq1, h⟩ := go_bind h
      refine pp_callV (as := []) (st := []) (rv := none) (μ1 := q1) (st1 := []) dX12_stone_25 ll_X12_348 sh_401 (by decide) rfl (ctX12_keep  hq1) rfl (Nat.le_of_ble_eq_true rfl) (Nat.le_of_ble_eq_true rfl) (go_Z_up w _) rfl rfl ?_
      refine go_aload_n dX12_stone_28 0 rfl ?_
      refine pp_getR dX12_stone_29 ff_X12_7 (Or.inr ⟨_, rfl⟩) sh_401 rf_401_0 ?_
      refine go_bipush (v := 10) dX12_stone_32 (by decide) ?_
      refine go_dup2 dX12_stone_34 rfl rfl ?_
      refine pp_ildc (q := 10) dX12_stone_35 sh_402 (by decide) ?_
      refine go_iconst (v := 1) dX12_stone_36 (by decide) ?_
      refine go_iload_n dX12_stone_37 1 rfl ?_
      refine go_ishl dX12_stone_38 ?_
      refine go_ixor dX12_stone_39 ?_
      obtain ⟨μ2, hμ2, h⟩ := go_let_e h
      refine pp_istc (q := 10) dX12_stone_40 sh_402 (by decide) hμ2 ?_
      refine go_iconst (v := 1) dX12_stone_41 (by decide) ?_
      cases h
      exact go_zret dX12_stone_42 rfl (Or.inr rfl) hK
    · have h := go_ifp hc h
      refine go_iconst (v := 0) dX12_stone_22 (by decide) ?_
      cases h
      exact go_zret dX12_stone_23 rfl (Or.inl rfl) hK
theorem ctX12_stone {w : go_Wd} {tx : Nat} {μ : PM} {a0 : Int32} {a1 : Int32} {r : Int32} {μ1 : PM}  (h : fX12_stone μ a0 a1 = some (r, μ1)) : Ct w 2 0 0 mtX12_stone [.ref 401, .int a0, .int a1] (go_mk tx μ) (fun r' M' => r' = some (.int r) ∧ M' = go_mk tx μ1) :=
  go_entry rfl (by decide) (Nat.le_of_ble_eq_true rfl) (cmX12_stone w tx _ μ a0 a1 _ h ⟨rfl, rfl⟩)
theorem bzX12_stone {μ : PM} {a0 a1 : Int32} {q : Int32 × PM} (h : fX12_stone μ a0 a1 = some q) : q.1 = 0 ∨ q.1 = 1 := by
  have hb : go_b (fX12_stone μ a0 a1) := by
    unfold fX12_stone
    repeat' first | exact gb_0 | exact gb_1 | with_reducible apply gb_ite | with_reducible apply gb_chk | (with_reducible apply gb_let; intro x) | (with_reducible apply gb_bind; intro x)
  exact hb q h
def fX12_stand (μ : PM) (a0 : Int32) (a1 : Int32) : Option (Int32 × PM) :=
  (if (fX12_isFamily μ a0) = 0 then some ((0, μ)) else (if (fX12_isCell a1) = 0 then some ((0, μ)) else go_chk (24 + a0) 1792 <| (if (μ.1 402 ((24 + a0) : Int32).toNatClampNeg) = a1 then some ((0, μ)) else (fX12_keep μ).bind fun q2 => go_chk (24 + a0) 1792 <| go_let (pm_wi q2 402 ((24 + a0) : Int32).toNatClampNeg a1) fun μ3 => some ((1, μ3)))))
set_option maxRecDepth 20000 in
set_option maxHeartbeats 4000000 in
theorem cmX12_stand (w : go_Wd) (tx : Nat) (Q : Option Value → go_M → Prop) (μ : PM) (a0 : Int32) (a1 : Int32) (out : Int32 × PM) (h : fX12_stand μ a0 a1 = some out) (hK : Q (some (.int out.1)) (go_mk tx out.2)) : Go w 2 0 0 mtX12_stand 0 [(0, .ref 401), (1, .int a0), (2, .int a1)] [] (go_mk tx μ) (go_Z w Q) := by
  unfold fX12_stand at h
  refine go_aload_n dX12_stand_0 0 rfl ?_
  refine go_iload_n dX12_stand_1 1 rfl ?_
  refine pp_callV (as := [.int a0]) (st := []) (rv := (some (.int (fX12_isFamily μ a0)))) (μ1 := μ) (st1 := [.int (fX12_isFamily μ a0)]) dX12_stand_2 ll_X12_351 sh_401 (by decide) rfl (ctX12_isFamily  rfl) rfl (Nat.le_of_ble_eq_true rfl) (Nat.le_of_ble_eq_true rfl) (go_Z_up w _) rfl rfl ?_
  refine go_if_eq 28 dX12_stand_5 (by decide) (fun hc => ?_) (fun hc => ?_)
  · have h := go_ifp hc h
    refine go_iconst (v := 0) dX12_stand_28 (by decide) ?_
    cases h
    exact go_zret dX12_stand_29 rfl (Or.inl rfl) hK
  · have h := go_ifn hc h
    refine go_iload_n dX12_stand_8 2 rfl ?_
    refine pp_callS (as := [.int a1]) (st := []) (rv := (some (.int (fX12_isCell a1)))) (μ1 := μ) (st1 := [.int (fX12_isCell a1)]) dX12_stand_9 ll_X12_84 (ctX12_isCell  rfl) rfl (Nat.le_of_ble_eq_true rfl) (Nat.le_of_ble_eq_true rfl) (go_Z_up w _) rfl rfl ?_
    refine go_if_eq 28 dX12_stand_12 (by decide) (fun hc => ?_) (fun hc => ?_)
    · have h := go_ifp hc h
      refine go_iconst (v := 0) dX12_stand_28 (by decide) ?_
      cases h
      exact go_zret dX12_stand_29 rfl (Or.inl rfl) hK
    · have h := go_ifn hc h
      refine go_aload_n dX12_stand_15 0 rfl ?_
      refine pp_getR dX12_stand_16 ff_X12_7 (Or.inr ⟨_, rfl⟩) sh_401 rf_401_0 ?_
      refine go_bipush (v := 24) dX12_stand_19 (by decide) ?_
      refine go_iload_n dX12_stand_21 1 rfl ?_
      refine go_iadd dX12_stand_22 ?_
      obtain ⟨hz1, h⟩ := go_chk_e h
      refine pp_ild dX12_stand_23 sh_402 hz1 ?_
      refine go_iload_n dX12_stand_24 2 rfl ?_
      refine go_icmp_ne 30 dX12_stand_25 (by decide) (fun hc => ?_) (fun hc => ?_)
      · have h := go_ifn hc h
        refine go_aload_n dX12_stand_30 0 rfl ?_
        obtain ⟨q2, hq2, h⟩ := go_bind h
        refine pp_callV (as := []) (st := []) (rv := none) (μ1 := q2) (st1 := []) dX12_stand_31 ll_X12_348 sh_401 (by decide) rfl (ctX12_keep  hq2) rfl (Nat.le_of_ble_eq_true rfl) (Nat.le_of_ble_eq_true rfl) (go_Z_up w _) rfl rfl ?_
        refine go_aload_n dX12_stand_34 0 rfl ?_
        refine pp_getR dX12_stand_35 ff_X12_7 (Or.inr ⟨_, rfl⟩) sh_401 rf_401_0 ?_
        refine go_bipush (v := 24) dX12_stand_38 (by decide) ?_
        refine go_iload_n dX12_stand_40 1 rfl ?_
        refine go_iadd dX12_stand_41 ?_
        refine go_iload_n dX12_stand_42 2 rfl ?_
        obtain ⟨hz4, h⟩ := go_chk_e h
        obtain ⟨μ3, hμ3, h⟩ := go_let_e h
        refine pp_ist dX12_stand_43 sh_402 hz4 hμ3 ?_
        refine go_iconst (v := 1) dX12_stand_44 (by decide) ?_
        cases h
        exact go_zret dX12_stand_45 rfl (Or.inr rfl) hK
      · have h := go_ifp hc h
        refine go_iconst (v := 0) dX12_stand_28 (by decide) ?_
        cases h
        exact go_zret dX12_stand_29 rfl (Or.inl rfl) hK
theorem ctX12_stand {w : go_Wd} {tx : Nat} {μ : PM} {a0 : Int32} {a1 : Int32} {r : Int32} {μ1 : PM}  (h : fX12_stand μ a0 a1 = some (r, μ1)) : Ct w 2 0 0 mtX12_stand [.ref 401, .int a0, .int a1] (go_mk tx μ) (fun r' M' => r' = some (.int r) ∧ M' = go_mk tx μ1) :=
  go_entry rfl (by decide) (Nat.le_of_ble_eq_true rfl) (cmX12_stand w tx _ μ a0 a1 _ h ⟨rfl, rfl⟩)
theorem bzX12_stand {μ : PM} {a0 a1 : Int32} {q : Int32 × PM} (h : fX12_stand μ a0 a1 = some q) : q.1 = 0 ∨ q.1 = 1 := by
  have hb : go_b (fX12_stand μ a0 a1) := by
    unfold fX12_stand
    repeat' first | exact gb_0 | exact gb_1 | with_reducible apply gb_ite | with_reducible apply gb_chk | (with_reducible apply gb_let; intro x) | (with_reducible apply gb_bind; intro x)
  exact hb q h
def fX12_isWith (μ : PM) (a0 : Int32) : Option (Int32) :=
  (if (fX12_isName μ a0) = 0 then some (0) else (fX12_get μ a0 0).bind fun q1 => (if q1 < 20 then some (0) else some (1)))
set_option maxRecDepth 20000 in
set_option maxHeartbeats 4000000 in
theorem cmX12_isWith (w : go_Wd) (tx : Nat) (Q : Option Value → go_M → Prop) (μ : PM) (a0 : Int32) (out : Int32) (h : fX12_isWith μ a0 = some out) (hK : Q (some (.int out)) (go_mk tx μ)) : Go w 2 0 0 mtX12_isWith 0 [(0, .ref 401), (1, .int a0)] [] (go_mk tx μ) (go_Z w Q) := by
  unfold fX12_isWith at h
  refine go_aload_n dX12_isWith_0 0 rfl ?_
  refine go_iload_n dX12_isWith_1 1 rfl ?_
  refine pp_callV (as := [.int a0]) (st := []) (rv := (some (.int (fX12_isName μ a0)))) (μ1 := μ) (st1 := [.int (fX12_isName μ a0)]) dX12_isWith_2 ll_X12_261 sh_401 (by decide) rfl (ctX12_isName  rfl) rfl (Nat.le_of_ble_eq_true rfl) (Nat.le_of_ble_eq_true rfl) (go_Z_up w _) rfl rfl ?_
  refine go_if_eq 23 dX12_isWith_5 (by decide) (fun hc => ?_) (fun hc => ?_)
  · have h := go_ifp hc h
    refine go_iconst (v := 0) dX12_isWith_23 (by decide) ?_
    cases h
    exact go_zret dX12_isWith_24 rfl (Or.inl rfl) hK
  · have h := go_ifn hc h
    refine go_aload_n dX12_isWith_8 0 rfl ?_
    refine go_iload_n dX12_isWith_9 1 rfl ?_
    refine go_iconst (v := 0) dX12_isWith_10 (by decide) ?_
    obtain ⟨q1, hq1, h⟩ := go_bind h
    refine pp_callV (as := [.int a0, .int 0]) (st := []) (rv := (some (.int q1))) (μ1 := μ) (st1 := [.int q1]) dX12_isWith_11 ll_X12_264 sh_401 (by decide) rfl (ctX12_get  hq1) rfl (Nat.le_of_ble_eq_true rfl) (Nat.le_of_ble_eq_true rfl) (go_Z_up w _) rfl rfl ?_
    refine go_bipush (v := 20) dX12_isWith_14 (by decide) ?_
    refine go_icmp_lt 23 dX12_isWith_16 (by decide) (fun hc => ?_) (fun hc => ?_)
    · have h := go_ifp hc h
      refine go_iconst (v := 0) dX12_isWith_23 (by decide) ?_
      cases h
      exact go_zret dX12_isWith_24 rfl (Or.inl rfl) hK
    · have h := go_ifn hc h
      refine go_iconst (v := 1) dX12_isWith_19 (by decide) ?_
      refine go_goto 24 dX12_isWith_20 (by decide) ?_
      cases h
      exact go_zret dX12_isWith_24 rfl (Or.inr rfl) hK
theorem ctX12_isWith {w : go_Wd} {tx : Nat} {μ : PM} {a0 : Int32} {r : Int32}  (h : fX12_isWith μ a0 = some r) : Ct w 2 0 0 mtX12_isWith [.ref 401, .int a0] (go_mk tx μ) (fun r' M' => r' = some (.int r) ∧ M' = go_mk tx μ) :=
  go_entry rfl (by decide) (Nat.le_of_ble_eq_true rfl) (cmX12_isWith w tx _ μ a0 _ h ⟨rfl, rfl⟩)
def fX12_sink (μ : PM) (a0 : Int32) : Option (Int32 × PM) :=
  (fX12_isWith μ a0).bind fun q1 => (if q1 = 0 then some ((0, μ)) else (fX12_keep μ).bind fun q2 => (fX12_put q2 a0 0 0).bind fun q3 => some ((1, q3)))
set_option maxRecDepth 20000 in
set_option maxHeartbeats 4000000 in
theorem cmX12_sink (w : go_Wd) (tx : Nat) (Q : Option Value → go_M → Prop) (μ : PM) (a0 : Int32) (out : Int32 × PM) (h : fX12_sink μ a0 = some out) (hK : Q (some (.int out.1)) (go_mk tx out.2)) : Go w 3 0 0 mtX12_sink 0 [(0, .ref 401), (1, .int a0)] [] (go_mk tx μ) (go_Z w Q) := by
  unfold fX12_sink at h
  refine go_aload_n dX12_sink_0 0 rfl ?_
  refine go_iload_n dX12_sink_1 1 rfl ?_
  obtain ⟨q1, hq1, h⟩ := go_bind h
  refine pp_callV (as := [.int a0]) (st := []) (rv := (some (.int q1))) (μ1 := μ) (st1 := [.int q1]) dX12_sink_2 ll_X12_354 sh_401 (by decide) rfl (ctX12_isWith  hq1) rfl (Nat.le_of_ble_eq_true rfl) (Nat.le_of_ble_eq_true rfl) (go_Z_up w _) rfl rfl ?_
  refine go_if_ne 10 dX12_sink_5 (by decide) (fun hc => ?_) (fun hc => ?_)
  · have h := go_ifn hc h
    refine go_aload_n dX12_sink_10 0 rfl ?_
    obtain ⟨q2, hq2, h⟩ := go_bind h
    refine pp_callV (as := []) (st := []) (rv := none) (μ1 := q2) (st1 := []) dX12_sink_11 ll_X12_348 sh_401 (by decide) rfl (ctX12_keep  hq2) rfl (Nat.le_of_ble_eq_true rfl) (Nat.le_of_ble_eq_true rfl) (go_Z_up w _) rfl rfl ?_
    refine go_aload_n dX12_sink_14 0 rfl ?_
    refine go_iload_n dX12_sink_15 1 rfl ?_
    refine go_iconst (v := 0) dX12_sink_16 (by decide) ?_
    refine go_iconst (v := 0) dX12_sink_17 (by decide) ?_
    obtain ⟨q3, hq3, h⟩ := go_bind h
    refine pp_callV (as := [.int a0, .int 0, .int 0]) (st := []) (rv := none) (μ1 := q3) (st1 := []) dX12_sink_18 ll_X12_76 sh_401 (by decide) rfl (ctX12_put  hq3) rfl (Nat.le_of_ble_eq_true rfl) (Nat.le_of_ble_eq_true rfl) (go_Z_up w _) rfl rfl ?_
    refine go_iconst (v := 1) dX12_sink_21 (by decide) ?_
    cases h
    exact go_zret dX12_sink_22 rfl (Or.inr rfl) hK
  · have h := go_ifp hc h
    refine go_iconst (v := 0) dX12_sink_8 (by decide) ?_
    cases h
    exact go_zret dX12_sink_9 rfl (Or.inl rfl) hK
theorem ctX12_sink {w : go_Wd} {tx : Nat} {μ : PM} {a0 : Int32} {r : Int32} {μ1 : PM}  (h : fX12_sink μ a0 = some (r, μ1)) : Ct w 3 0 0 mtX12_sink [.ref 401, .int a0] (go_mk tx μ) (fun r' M' => r' = some (.int r) ∧ M' = go_mk tx μ1) :=
  go_entry rfl (by decide) (Nat.le_of_ble_eq_true rfl) (cmX12_sink w tx _ μ a0 _ h ⟨rfl, rfl⟩)
theorem bzX12_sink {μ : PM} {a0 : Int32} {q : Int32 × PM} (h : fX12_sink μ a0 = some q) : q.1 = 0 ∨ q.1 = 1 := by
  have hb : go_b (fX12_sink μ a0) := by
    unfold fX12_sink
    repeat' first | exact gb_0 | exact gb_1 | with_reducible apply gb_ite | with_reducible apply gb_chk | (with_reducible apply gb_let; intro x) | (with_reducible apply gb_bind; intro x)
  exact hb q h
def lbX12_arePassed_7 (a0 : Int32)  (v2 : Int32) (μ : PM) : Option ((Int32 × PM) ⊕ (Int32 × PM)) :=
  (if a0 ≤ v2 then some (.inr ((1, μ))) else (if (μ.1 402 7) = 9999 then some (.inr ((0, μ))) else (fX12_keep μ).bind fun q2 => (fX12_pass q2).bind fun q3 => some (.inl ((v2 + 1), q3))))
def fX12_arePassed (μ : PM) (a0 : Int32) : Option (Int32 × PM) :=
  go_let (pm_wi μ 401 24 0) fun μ1 => ((lp (fun s => lbX12_arePassed_7 a0 s.1 s.2) go_fuel (0, μ1)).bind fun ρ4 => some ρ4)
def ggX12_arePassed_7 (w : go_Wd) (tx : Nat) (Q : Option Value → go_M → Prop) (a0 : Int32)  (s : Int32 × PM) : Prop := Go w 10 0 0 mtX12_arePassed 7 [(0, .ref 401), (1, .int a0), (2, .int s.1)] [] (go_mk tx s.2) (go_Z w Q)
def eeX12_arePassed_7 (w : go_Wd) (tx : Nat) (Q : Option Value → go_M → Prop) (a0 : Int32)  (y : Int32 × PM) : Prop := Q (some (.int y.1)) (go_mk tx y.2)
set_option maxRecDepth 20000 in
set_option maxHeartbeats 4000000 in
theorem lqX12_arePassed_7 (w : go_Wd) (tx : Nat) (Q : Option Value → go_M → Prop) (a0 : Int32)   (v2 : Int32) (μ : PM) (out : (Int32 × PM) ⊕ (Int32 × PM)) (h : lbX12_arePassed_7 a0  v2 μ = some out) (hK : go_out (ggX12_arePassed_7 w tx Q a0 ) (eeX12_arePassed_7 w tx Q a0 ) out) : ggX12_arePassed_7 w tx Q a0  (v2, μ) := by
  unfold lbX12_arePassed_7 at h
  show Go w 10 0 0 mtX12_arePassed 7 [(0, .ref 401), (1, .int a0), (2, .int v2)] [] (go_mk tx μ) (go_Z w Q)
  refine go_iload_n dX12_arePassed_7 2 rfl ?_
  refine go_iload_n dX12_arePassed_8 1 rfl ?_
  refine go_icmp_ge 41 dX12_arePassed_9 (by decide) (fun hc => ?_) (fun hc => ?_)
  · have h := go_ifp hc h
    refine go_iconst (v := 1) dX12_arePassed_41 (by decide) ?_
    cases h
    exact go_zret dX12_arePassed_42 rfl (Or.inr rfl) hK
  · have h := go_ifn hc h
    refine go_aload_n dX12_arePassed_12 0 rfl ?_
    refine pp_getR dX12_arePassed_13 ff_X12_7 (Or.inr ⟨_, rfl⟩) sh_401 rf_401_0 ?_
    refine go_bipush (v := 7) dX12_arePassed_16 (by decide) ?_
    refine pp_ildc (q := 7) dX12_arePassed_18 sh_402 (by decide) ?_
    refine go_sipush (v := 9999) dX12_arePassed_19 (by decide) ?_
    refine go_icmp_ne 27 dX12_arePassed_22 (by decide) (fun hc => ?_) (fun hc => ?_)
    · have h := go_ifn hc h
      refine go_aload_n dX12_arePassed_27 0 rfl ?_
      obtain ⟨q2, hq2, h⟩ := go_bind h
      refine pp_callV (as := []) (st := []) (rv := none) (μ1 := q2) (st1 := []) dX12_arePassed_28 ll_X12_348 sh_401 (by decide) rfl (ctX12_keep  hq2) rfl (Nat.le_of_ble_eq_true rfl) (Nat.le_of_ble_eq_true rfl) (go_Z_up w _) rfl rfl ?_
      refine go_aload_n dX12_arePassed_31 0 rfl ?_
      obtain ⟨q3, hq3, h⟩ := go_bind h
      refine pp_callV (as := []) (st := []) (rv := none) (μ1 := q3) (st1 := []) dX12_arePassed_32 ll_X12_357 sh_401 (by decide) rfl (ctX12_pass  hq3) rfl (Nat.le_of_ble_eq_true rfl) (Nat.le_of_ble_eq_true rfl) (go_Z_up w _) rfl rfl ?_
      refine go_iinc (v := (v2 + 1)) dX12_arePassed_35 2 rfl rfl (by decide) rfl ?_
      show Go w 10 0 0 mtX12_arePassed 38 [(2, .int (v2 + 1)), (0, .ref 401), (1, .int a0)] [] (go_mk tx q3) (go_Z w Q)
      refine go_goto 7 dX12_arePassed_38 (by decide) ?_
      cases h
      have hK : Go w 10 0 0 mtX12_arePassed 7 [(0, .ref 401), (1, .int a0), (2, .int (v2 + 1))] [] (go_mk tx q3) (go_Z w Q) := hK
      exact go_pick [1, 2, 0] rfl hK
    · have h := go_ifp hc h
      refine go_iconst (v := 0) dX12_arePassed_25 (by decide) ?_
      cases h
      exact go_zret dX12_arePassed_26 rfl (Or.inl rfl) hK
set_option maxRecDepth 20000 in
set_option maxHeartbeats 4000000 in
theorem cmX12_arePassed (w : go_Wd) (tx : Nat) (Q : Option Value → go_M → Prop) (μ : PM) (a0 : Int32) (out : Int32 × PM) (h : fX12_arePassed μ a0 = some out) (hK : Q (some (.int out.1)) (go_mk tx out.2)) : Go w 10 0 0 mtX12_arePassed 0 [(0, .ref 401), (1, .int a0)] [] (go_mk tx μ) (go_Z w Q) := by
  unfold fX12_arePassed at h
  refine go_aload_n dX12_arePassed_0 0 rfl ?_
  refine go_iconst (v := 0) dX12_arePassed_1 (by decide) ?_
  obtain ⟨μ1, hμ1, h⟩ := go_let_e h
  refine pp_putI dX12_arePassed_2 ff_X12_333 (Or.inl rfl) sh_401 hμ1 ?_
  refine go_iconst (v := 0) dX12_arePassed_5 (by decide) ?_
  refine go_istore_n dX12_arePassed_6 (by decide) rfl ?_
  show Go w 10 0 0 mtX12_arePassed 7 [(2, .int 0), (0, .ref 401), (1, .int a0)] [] (go_mk tx μ1) (go_Z w Q)
  obtain ⟨ρ4, hρ4, h⟩ := go_bind h
  refine go_pick [1, 2, 0] rfl ?_
  refine go_lp (G := ggX12_arePassed_7 w tx Q a0 ) (E := eeX12_arePassed_7 w tx Q a0 ) (fun s out h hK => lqX12_arePassed_7 w tx Q a0   s.1 s.2 out h hK) go_fuel (0, μ1) ρ4 hρ4 ?_
  cases h
  exact hK
theorem ctX12_arePassed {w : go_Wd} {tx : Nat} {μ : PM} {a0 : Int32} {r : Int32} {μ1 : PM}  (h : fX12_arePassed μ a0 = some (r, μ1)) : Ct w 10 0 0 mtX12_arePassed [.ref 401, .int a0] (go_mk tx μ) (fun r' M' => r' = some (.int r) ∧ M' = go_mk tx μ1) :=
  go_entry rfl (by decide) (Nat.le_of_ble_eq_true rfl) (cmX12_arePassed w tx _ μ a0 _ h ⟨rfl, rfl⟩)
theorem bzX12_arePassed {μ : PM} {a0 : Int32} {q : Int32 × PM} (h : fX12_arePassed μ a0 = some q) : q.1 = 0 ∨ q.1 = 1 := by
  unfold fX12_arePassed at h
  obtain ⟨μ1, -, h⟩ := go_let_e h
  obtain ⟨r, hr, h⟩ := go_bind h
  cases h
  refine lp_all (P := fun y : Int32 × PM => y.1 = 0 ∨ y.1 = 1) (fun s r hs => ?_) _ _ _ hr
  unfold lbX12_arePassed_7 at hs
  by_cases hc : a0 ≤ s.1
  · rw [if_pos hc] at hs
    cases hs
    exact Or.inr rfl
  · rw [if_neg hc] at hs
    by_cases hd : (s.2.1 402 7) = 9999
    · rw [if_pos hd] at hs
      cases hs
      exact Or.inl rfl
    · rw [if_neg hd] at hs
      obtain ⟨_, _, hs⟩ := go_bind hs
      obtain ⟨_, _, hs⟩ := go_bind hs
      cases hs
def fX12_hour (μ : PM) (a0 : Int32) : Option (Int32 × PM) :=
  (if (fX12_isIn a0 1 60) = 0 then some (((-1), μ)) else (if 9999 < ((μ.1 402 7) + a0) then some (((-1), μ)) else (fX12_arePassed μ a0).bind fun q1 => (if q1.1 = 0 then some (((-1), q1.2)) else some (((q1.2.1 401 24), q1.2)))))
set_option maxRecDepth 20000 in
set_option maxHeartbeats 4000000 in
theorem cmX12_hour (w : go_Wd) (tx : Nat) (Q : Option Value → go_M → Prop) (μ : PM) (a0 : Int32) (out : Int32 × PM) (h : fX12_hour μ a0 = some out) (hK : Q (some (.int out.1)) (go_mk tx out.2)) : Go w 11 0 0 mtX12_hour 0 [(0, .ref 401), (1, .int a0)] [] (go_mk tx μ) (go_Z w Q) := by
  unfold fX12_hour at h
  refine go_iload_n dX12_hour_0 1 rfl ?_
  refine go_iconst (v := 1) dX12_hour_1 (by decide) ?_
  refine go_bipush (v := 60) dX12_hour_2 (by decide) ?_
  refine pp_callS (as := [.int a0, .int 1, .int 60]) (st := []) (rv := (some (.int (fX12_isIn a0 1 60)))) (μ1 := μ) (st1 := [.int (fX12_isIn a0 1 60)]) dX12_hour_4 ll_X12_63 (ctX12_isIn  rfl) rfl (Nat.le_of_ble_eq_true rfl) (Nat.le_of_ble_eq_true rfl) (go_Z_up w _) rfl rfl ?_
  refine go_if_eq 40 dX12_hour_7 (by decide) (fun hc => ?_) (fun hc => ?_)
  · have h := go_ifp hc h
    refine go_iconst (v := (-1)) dX12_hour_40 (by decide) ?_
    cases h
    exact go_iret dX12_hour_41 rfl hK
  · have h := go_ifn hc h
    refine go_aload_n dX12_hour_10 0 rfl ?_
    refine pp_getR dX12_hour_11 ff_X12_7 (Or.inr ⟨_, rfl⟩) sh_401 rf_401_0 ?_
    refine go_bipush (v := 7) dX12_hour_14 (by decide) ?_
    refine pp_ildc (q := 7) dX12_hour_16 sh_402 (by decide) ?_
    refine go_iload_n dX12_hour_17 1 rfl ?_
    refine go_iadd dX12_hour_18 ?_
    refine go_sipush (v := 9999) dX12_hour_19 (by decide) ?_
    refine go_icmp_gt 40 dX12_hour_22 (by decide) (fun hc => ?_) (fun hc => ?_)
    · have h := go_ifp hc h
      refine go_iconst (v := (-1)) dX12_hour_40 (by decide) ?_
      cases h
      exact go_iret dX12_hour_41 rfl hK
    · have h := go_ifn hc h
      refine go_aload_n dX12_hour_25 0 rfl ?_
      refine go_iload_n dX12_hour_26 1 rfl ?_
      obtain ⟨q1, hq1, h⟩ := go_bind h
      refine pp_callV (as := [.int a0]) (st := []) (rv := (some (.int q1.1))) (μ1 := q1.2) (st1 := [.int q1.1]) dX12_hour_27 ll_X12_360 sh_401 (by decide) rfl (ctX12_arePassed  hq1) rfl (Nat.le_of_ble_eq_true rfl) (Nat.le_of_ble_eq_true rfl) (go_Z_up w _) rfl rfl ?_
      refine go_if_eq 40 dX12_hour_30 (by decide) (fun hc => ?_) (fun hc => ?_)
      · have h := go_ifp hc h
        refine go_iconst (v := (-1)) dX12_hour_40 (by decide) ?_
        cases h
        exact go_iret dX12_hour_41 rfl hK
      · have h := go_ifn hc h
        refine go_aload_n dX12_hour_33 0 rfl ?_
        refine pp_getI dX12_hour_34 ff_X12_333 (by decide) sh_401 ?_
        refine go_goto 41 dX12_hour_37 (by decide) ?_
        cases h
        exact go_iret dX12_hour_41 rfl hK
theorem ctX12_hour {w : go_Wd} {tx : Nat} {μ : PM} {a0 : Int32} {r : Int32} {μ1 : PM}  (h : fX12_hour μ a0 = some (r, μ1)) : Ct w 11 0 0 mtX12_hour [.ref 401, .int a0] (go_mk tx μ) (fun r' M' => r' = some (.int r) ∧ M' = go_mk tx μ1) :=
  go_entry rfl (by decide) (Nat.le_of_ble_eq_true rfl) (cmX12_hour w tx _ μ a0 _ h ⟨rfl, rfl⟩)
def fX12_isPlayed (μ : PM) (a0 : Int32) : Option (Int32 × PM) :=
  go_chk (a0 + 1) 2724 <| go_let ((μ.1 404 ((a0 + 1) : Int32).toNatClampNeg)) fun x2 => go_chk (a0 + 2) 2724 <| go_let ((μ.1 404 ((a0 + 2) : Int32).toNatClampNeg)) fun x4 => go_chk a0 2724 <| (if (μ.1 404 a0.toNatClampNeg) = 3 then (fX12_name μ x2 x4).bind fun q7 => (if q7.1 < 0 then some ((0, q7.2)) else some ((1, q7.2))) else (if (μ.1 404 a0.toNatClampNeg) = 4 then (fX12_family μ x2 x4).bind fun q9 => (if q9.1 < 0 then some ((0, q9.2)) else some ((1, q9.2))) else (if (μ.1 404 a0.toNatClampNeg) = 5 then (fX12_call μ x2).bind fun q11 => some ((q11.1, q11.2)) else (if (μ.1 404 a0.toNatClampNeg) = 6 then (fX12_stone μ x2 1).bind fun q13 => some ((q13.1, q13.2)) else (if (μ.1 404 a0.toNatClampNeg) = 7 then (fX12_stone μ x2 0).bind fun q15 => some ((q15.1, q15.2)) else (if (μ.1 404 a0.toNatClampNeg) = 8 then (fX12_stand μ x2 x4).bind fun q17 => some ((q17.1, q17.2)) else (if (μ.1 404 a0.toNatClampNeg) = 9 then (fX12_sink μ x2).bind fun q19 => some ((q19.1, q19.2)) else (if (μ.1 404 a0.toNatClampNeg) = 10 then (fX12_arePassed μ x2).bind fun q21 => some ((q21.1, q21.2)) else some ((1, μ))))))))))
set_option maxRecDepth 20000 in
set_option maxHeartbeats 4000000 in
theorem cmX12_isPlayed (w : go_Wd) (tx : Nat) (Q : Option Value → go_M → Prop) (μ : PM) (a0 : Int32) (out : Int32 × PM) (h : fX12_isPlayed μ a0 = some out) (hK : Q (some (.int out.1)) (go_mk tx out.2)) : Go w 11 0 0 mtX12_isPlayed 0 [(0, .ref 401), (1, .int a0)] [] (go_mk tx μ) (go_Z w Q) := by
  unfold fX12_isPlayed at h
  refine go_aload_n dX12_isPlayed_0 0 rfl ?_
  refine pp_getR dX12_isPlayed_1 ff_X12_16 (Or.inr ⟨_, rfl⟩) sh_401 rf_401_2 ?_
  refine go_iload_n dX12_isPlayed_4 1 rfl ?_
  refine go_iconst (v := 1) dX12_isPlayed_5 (by decide) ?_
  refine go_iadd dX12_isPlayed_6 ?_
  obtain ⟨hz1, h⟩ := go_chk_e h
  refine pp_ild dX12_isPlayed_7 sh_404 hz1 ?_
  obtain ⟨x2, hx2, h⟩ := go_let_e h
  refine go_top hx2 ?_
  refine go_istore_n dX12_isPlayed_8 (by decide) rfl ?_
  show Go w 11 0 0 mtX12_isPlayed 9 [(2, .int x2), (0, .ref 401), (1, .int a0)] [] (go_mk tx μ) (go_Z w Q)
  refine go_aload_n dX12_isPlayed_9 1 rfl ?_
  refine pp_getR dX12_isPlayed_10 ff_X12_16 (Or.inr ⟨_, rfl⟩) sh_401 rf_401_2 ?_
  refine go_iload_n dX12_isPlayed_13 2 rfl ?_
  refine go_iconst (v := 2) dX12_isPlayed_14 (by decide) ?_
  refine go_iadd dX12_isPlayed_15 ?_
  obtain ⟨hz3, h⟩ := go_chk_e h
  refine pp_ild dX12_isPlayed_16 sh_404 hz3 ?_
  obtain ⟨x4, hx4, h⟩ := go_let_e h
  refine go_top hx4 ?_
  refine go_istore_n dX12_isPlayed_17 (by decide) rfl ?_
  show Go w 11 0 0 mtX12_isPlayed 18 [(3, .int x4), (2, .int x2), (0, .ref 401), (1, .int a0)] [] (go_mk tx μ) (go_Z w Q)
  refine go_aload_n dX12_isPlayed_18 2 rfl ?_
  refine pp_getR dX12_isPlayed_19 ff_X12_16 (Or.inr ⟨_, rfl⟩) sh_401 rf_401_2 ?_
  refine go_iload_n dX12_isPlayed_22 3 rfl ?_
  obtain ⟨hz5, h⟩ := go_chk_e h
  refine pp_ild dX12_isPlayed_23 sh_404 hz5 ?_
  by_cases hc6 : (μ.1 404 a0.toNatClampNeg) = 3
  · have h := go_ifp hc6 h
    refine go_tabIn (off := 48) 72 dX12_isPlayed_24 3 hc6 (by decide) (by decide) (by decide) (by decide) ?_
    refine go_aload_n dX12_isPlayed_72 2 rfl ?_
    refine go_iload_n dX12_isPlayed_73 1 rfl ?_
    refine go_iload_n dX12_isPlayed_74 0 rfl ?_
    obtain ⟨q7, hq7, h⟩ := go_bind h
    refine pp_callV (as := [.int x2, .int x4]) (st := []) (rv := (some (.int q7.1))) (μ1 := q7.2) (st1 := [.int q7.1]) dX12_isPlayed_75 ll_X12_363 sh_401 (by decide) rfl (ctX12_name  hq7) rfl (Nat.le_of_ble_eq_true rfl) (Nat.le_of_ble_eq_true rfl) (go_Z_up w _) rfl rfl ?_
    refine go_if_lt 85 dX12_isPlayed_78 (by decide) (fun hc => ?_) (fun hc => ?_)
    · have h := go_ifp hc h
      refine go_iconst (v := 0) dX12_isPlayed_85 (by decide) ?_
      cases h
      exact go_zret dX12_isPlayed_86 rfl (Or.inl rfl) hK
    · have h := go_ifn hc h
      refine go_iconst (v := 1) dX12_isPlayed_81 (by decide) ?_
      refine go_goto 86 dX12_isPlayed_82 (by decide) ?_
      cases h
      exact go_zret dX12_isPlayed_86 rfl (Or.inr rfl) hK
  · have h := go_ifn hc6 h
    by_cases hc8 : (μ.1 404 a0.toNatClampNeg) = 4
    · have h := go_ifp hc8 h
      refine go_tabIn (off := 63) 87 dX12_isPlayed_24 4 hc8 (by decide) (by decide) (by decide) (by decide) ?_
      refine go_aload_n dX12_isPlayed_87 2 rfl ?_
      refine go_iload_n dX12_isPlayed_88 1 rfl ?_
      refine go_iload_n dX12_isPlayed_89 0 rfl ?_
      obtain ⟨q9, hq9, h⟩ := go_bind h
      refine pp_callV (as := [.int x2, .int x4]) (st := []) (rv := (some (.int q9.1))) (μ1 := q9.2) (st1 := [.int q9.1]) dX12_isPlayed_90 ll_X12_366 sh_401 (by decide) rfl (ctX12_family  hq9) rfl (Nat.le_of_ble_eq_true rfl) (Nat.le_of_ble_eq_true rfl) (go_Z_up w _) rfl rfl ?_
      refine go_if_lt 100 dX12_isPlayed_93 (by decide) (fun hc => ?_) (fun hc => ?_)
      · have h := go_ifp hc h
        refine go_iconst (v := 0) dX12_isPlayed_100 (by decide) ?_
        cases h
        exact go_zret dX12_isPlayed_101 rfl (Or.inl rfl) hK
      · have h := go_ifn hc h
        refine go_iconst (v := 1) dX12_isPlayed_96 (by decide) ?_
        refine go_goto 101 dX12_isPlayed_97 (by decide) ?_
        cases h
        exact go_zret dX12_isPlayed_101 rfl (Or.inr rfl) hK
    · have h := go_ifn hc8 h
      by_cases hc10 : (μ.1 404 a0.toNatClampNeg) = 5
      · have h := go_ifp hc10 h
        refine go_tabIn (off := 78) 102 dX12_isPlayed_24 5 hc10 (by decide) (by decide) (by decide) (by decide) ?_
        refine go_aload_n dX12_isPlayed_102 2 rfl ?_
        refine go_iload_n dX12_isPlayed_103 1 rfl ?_
        obtain ⟨q11, hq11, h⟩ := go_bind h
        refine pp_callV (as := [.int x2]) (st := []) (rv := (some (.int q11.1))) (μ1 := q11.2) (st1 := [.int q11.1]) dX12_isPlayed_104 ll_X12_369 sh_401 (by decide) rfl (ctX12_call  hq11) rfl (Nat.le_of_ble_eq_true rfl) (Nat.le_of_ble_eq_true rfl) (go_Z_up w _) rfl rfl ?_
        cases h
        exact go_zret dX12_isPlayed_107 rfl (bzX12_call hq11) hK
      · have h := go_ifn hc10 h
        by_cases hc12 : (μ.1 404 a0.toNatClampNeg) = 6
        · have h := go_ifp hc12 h
          refine go_tabIn (off := 84) 108 dX12_isPlayed_24 6 hc12 (by decide) (by decide) (by decide) (by decide) ?_
          refine go_aload_n dX12_isPlayed_108 2 rfl ?_
          refine go_iload_n dX12_isPlayed_109 1 rfl ?_
          refine go_iconst (v := 1) dX12_isPlayed_110 (by decide) ?_
          obtain ⟨q13, hq13, h⟩ := go_bind h
          refine pp_callV (as := [.int x2, .int 1]) (st := []) (rv := (some (.int q13.1))) (μ1 := q13.2) (st1 := [.int q13.1]) dX12_isPlayed_111 ll_X12_372 sh_401 (by decide) rfl (ctX12_stone  hq13) rfl (Nat.le_of_ble_eq_true rfl) (Nat.le_of_ble_eq_true rfl) (go_Z_up w _) rfl rfl ?_
          cases h
          exact go_zret dX12_isPlayed_114 rfl (bzX12_stone hq13) hK
        · have h := go_ifn hc12 h
          by_cases hc14 : (μ.1 404 a0.toNatClampNeg) = 7
          · have h := go_ifp hc14 h
            refine go_tabIn (off := 91) 115 dX12_isPlayed_24 7 hc14 (by decide) (by decide) (by decide) (by decide) ?_
            refine go_aload_n dX12_isPlayed_115 2 rfl ?_
            refine go_iload_n dX12_isPlayed_116 1 rfl ?_
            refine go_iconst (v := 0) dX12_isPlayed_117 (by decide) ?_
            obtain ⟨q15, hq15, h⟩ := go_bind h
            refine pp_callV (as := [.int x2, .int 0]) (st := []) (rv := (some (.int q15.1))) (μ1 := q15.2) (st1 := [.int q15.1]) dX12_isPlayed_118 ll_X12_372 sh_401 (by decide) rfl (ctX12_stone  hq15) rfl (Nat.le_of_ble_eq_true rfl) (Nat.le_of_ble_eq_true rfl) (go_Z_up w _) rfl rfl ?_
            cases h
            exact go_zret dX12_isPlayed_121 rfl (bzX12_stone hq15) hK
          · have h := go_ifn hc14 h
            by_cases hc16 : (μ.1 404 a0.toNatClampNeg) = 8
            · have h := go_ifp hc16 h
              refine go_tabIn (off := 98) 122 dX12_isPlayed_24 8 hc16 (by decide) (by decide) (by decide) (by decide) ?_
              refine go_aload_n dX12_isPlayed_122 2 rfl ?_
              refine go_iload_n dX12_isPlayed_123 1 rfl ?_
              refine go_iload_n dX12_isPlayed_124 0 rfl ?_
              obtain ⟨q17, hq17, h⟩ := go_bind h
              refine pp_callV (as := [.int x2, .int x4]) (st := []) (rv := (some (.int q17.1))) (μ1 := q17.2) (st1 := [.int q17.1]) dX12_isPlayed_125 ll_X12_376 sh_401 (by decide) rfl (ctX12_stand  hq17) rfl (Nat.le_of_ble_eq_true rfl) (Nat.le_of_ble_eq_true rfl) (go_Z_up w _) rfl rfl ?_
              cases h
              exact go_zret dX12_isPlayed_128 rfl (bzX12_stand hq17) hK
            · have h := go_ifn hc16 h
              by_cases hc18 : (μ.1 404 a0.toNatClampNeg) = 9
              · have h := go_ifp hc18 h
                refine go_tabIn (off := 105) 129 dX12_isPlayed_24 9 hc18 (by decide) (by decide) (by decide) (by decide) ?_
                refine go_aload_n dX12_isPlayed_129 2 rfl ?_
                refine go_iload_n dX12_isPlayed_130 1 rfl ?_
                obtain ⟨q19, hq19, h⟩ := go_bind h
                refine pp_callV (as := [.int x2]) (st := []) (rv := (some (.int q19.1))) (μ1 := q19.2) (st1 := [.int q19.1]) dX12_isPlayed_131 ll_X12_379 sh_401 (by decide) rfl (ctX12_sink  hq19) rfl (Nat.le_of_ble_eq_true rfl) (Nat.le_of_ble_eq_true rfl) (go_Z_up w _) rfl rfl ?_
                cases h
                exact go_zret dX12_isPlayed_134 rfl (bzX12_sink hq19) hK
              · have h := go_ifn hc18 h
                by_cases hc20 : (μ.1 404 a0.toNatClampNeg) = 10
                · have h := go_ifp hc20 h
                  refine go_tabIn (off := 111) 135 dX12_isPlayed_24 10 hc20 (by decide) (by decide) (by decide) (by decide) ?_
                  refine go_aload_n dX12_isPlayed_135 2 rfl ?_
                  refine go_iload_n dX12_isPlayed_136 1 rfl ?_
                  obtain ⟨q21, hq21, h⟩ := go_bind h
                  refine pp_callV (as := [.int x2]) (st := []) (rv := (some (.int q21.1))) (μ1 := q21.2) (st1 := [.int q21.1]) dX12_isPlayed_137 ll_X12_360 sh_401 (by decide) rfl (ctX12_arePassed  hq21) rfl (Nat.le_of_ble_eq_true rfl) (Nat.le_of_ble_eq_true rfl) (go_Z_up w _) rfl rfl ?_
                  cases h
                  exact go_zret dX12_isPlayed_140 rfl (bzX12_arePassed hq21) hK
                · have h := go_ifn hc20 h
                  refine go_tabOut 141 dX12_isPlayed_24 (by have g0 := go_ne_i (n := 3) hc6 (by decide); have g1 := go_ne_i (n := 4) hc8 (by decide); have g2 := go_ne_i (n := 5) hc10 (by decide); have g3 := go_ne_i (n := 6) hc12 (by decide); have g4 := go_ne_i (n := 7) hc14 (by decide); have g5 := go_ne_i (n := 8) hc16 (by decide); have g6 := go_ne_i (n := 9) hc18 (by decide); have g7 := go_ne_i (n := 10) hc20 (by decide); omega) (by decide) ?_
                  refine go_iconst (v := 1) dX12_isPlayed_141 (by decide) ?_
                  cases h
                  exact go_zret dX12_isPlayed_142 rfl (Or.inr rfl) hK
theorem ctX12_isPlayed {w : go_Wd} {tx : Nat} {μ : PM} {a0 : Int32} {r : Int32} {μ1 : PM}  (h : fX12_isPlayed μ a0 = some (r, μ1)) : Ct w 11 0 0 mtX12_isPlayed [.ref 401, .int a0] (go_mk tx μ) (fun r' M' => r' = some (.int r) ∧ M' = go_mk tx μ1) :=
  go_entry rfl (by decide) (Nat.le_of_ble_eq_true rfl) (cmX12_isPlayed w tx _ μ a0 _ h ⟨rfl, rfl⟩)
def lbX12_played_21 (a0 : Int32)  (v2 : Int32) (μ : PM) : Option ((Int32 × PM) ⊕ (Int32 × PM)) :=
  go_chk (681 * a0) 2724 <| (if (μ.1 404 ((681 * a0) : Int32).toNatClampNeg) ≤ v2 then some (.inr (((-1), μ))) else (fX12_isPlayed μ (((681 * a0) + 1) + (3 * v2))).bind fun q2 => (if q2.1 = 0 then some (.inr ((v2, q2.2))) else some (.inl ((v2 + 1), q2.2))))
def fX12_played (μ : PM) (a0 : Int32) : Option (Int32 × PM) :=
  (if (fX12_isIn a0 0 ((μ.1 402 2) - 1)) = 0 then some (((-2), μ)) else ((lp (fun s => lbX12_played_21 a0 s.1 s.2) go_fuel (0, μ)).bind fun ρ3 => some ρ3))
def ggX12_played_21 (w : go_Wd) (tx : Nat) (Q : Option Value → go_M → Prop) (a0 : Int32)  (s : Int32 × PM) : Prop := Go w 12 0 0 mtX12_played 21 [(0, .ref 401), (1, .int a0), (2, .int s.1)] [] (go_mk tx s.2) (go_Z w Q)
def eeX12_played_21 (w : go_Wd) (tx : Nat) (Q : Option Value → go_M → Prop) (a0 : Int32)  (y : Int32 × PM) : Prop := Q (some (.int y.1)) (go_mk tx y.2)
set_option maxRecDepth 20000 in
set_option maxHeartbeats 4000000 in
theorem lqX12_played_21 (w : go_Wd) (tx : Nat) (Q : Option Value → go_M → Prop) (a0 : Int32)   (v2 : Int32) (μ : PM) (out : (Int32 × PM) ⊕ (Int32 × PM)) (h : lbX12_played_21 a0  v2 μ = some out) (hK : go_out (ggX12_played_21 w tx Q a0 ) (eeX12_played_21 w tx Q a0 ) out) : ggX12_played_21 w tx Q a0  (v2, μ) := by
  unfold lbX12_played_21 at h
  show Go w 12 0 0 mtX12_played 21 [(0, .ref 401), (1, .int a0), (2, .int v2)] [] (go_mk tx μ) (go_Z w Q)
  refine go_iload_n dX12_played_21 2 rfl ?_
  refine go_aload_n dX12_played_22 0 rfl ?_
  refine pp_getR dX12_played_23 ff_X12_16 (Or.inr ⟨_, rfl⟩) sh_401 rf_401_2 ?_
  refine go_sipush (v := 681) dX12_played_26 (by decide) ?_
  refine go_iload_n dX12_played_29 1 rfl ?_
  refine go_imul dX12_played_30 ?_
  obtain ⟨hz1, h⟩ := go_chk_e h
  refine pp_ild dX12_played_31 sh_404 hz1 ?_
  refine go_icmp_ge 61 dX12_played_32 (by decide) (fun hc => ?_) (fun hc => ?_)
  · have h := go_ifp hc h
    refine go_iconst (v := (-1)) dX12_played_61 (by decide) ?_
    cases h
    exact go_iret dX12_played_62 rfl hK
  · have h := go_ifn hc h
    refine go_aload_n dX12_played_35 0 rfl ?_
    refine go_sipush (v := 681) dX12_played_36 (by decide) ?_
    refine go_iload_n dX12_played_39 1 rfl ?_
    refine go_imul dX12_played_40 ?_
    refine go_iconst (v := 1) dX12_played_41 (by decide) ?_
    refine go_iadd dX12_played_42 ?_
    refine go_iconst (v := 3) dX12_played_43 (by decide) ?_
    refine go_iload_n dX12_played_44 2 rfl ?_
    refine go_imul dX12_played_45 ?_
    refine go_iadd dX12_played_46 ?_
    obtain ⟨q2, hq2, h⟩ := go_bind h
    refine pp_callV (as := [.int (((681 * a0) + 1) + (3 * v2))]) (st := []) (rv := (some (.int q2.1))) (μ1 := q2.2) (st1 := [.int q2.1]) dX12_played_47 ll_X12_382 sh_401 (by decide) rfl (ctX12_isPlayed  hq2) rfl (Nat.le_of_ble_eq_true rfl) (Nat.le_of_ble_eq_true rfl) (go_Z_up w _) rfl rfl ?_
    refine go_if_ne 55 dX12_played_50 (by decide) (fun hc => ?_) (fun hc => ?_)
    · have h := go_ifn hc h
      refine go_iinc (v := (v2 + 1)) dX12_played_55 2 rfl rfl (by decide) rfl ?_
      show Go w 12 0 0 mtX12_played 58 [(2, .int (v2 + 1)), (0, .ref 401), (1, .int a0)] [] (go_mk tx q2.2) (go_Z w Q)
      refine go_goto 21 dX12_played_58 (by decide) ?_
      cases h
      have hK : Go w 12 0 0 mtX12_played 21 [(0, .ref 401), (1, .int a0), (2, .int (v2 + 1))] [] (go_mk tx q2.2) (go_Z w Q) := hK
      exact go_pick [1, 2, 0] rfl hK
    · have h := go_ifp hc h
      refine go_iload_n dX12_played_53 2 rfl ?_
      cases h
      exact go_iret dX12_played_54 rfl hK
set_option maxRecDepth 20000 in
set_option maxHeartbeats 4000000 in
theorem cmX12_played (w : go_Wd) (tx : Nat) (Q : Option Value → go_M → Prop) (μ : PM) (a0 : Int32) (out : Int32 × PM) (h : fX12_played μ a0 = some out) (hK : Q (some (.int out.1)) (go_mk tx out.2)) : Go w 12 0 0 mtX12_played 0 [(0, .ref 401), (1, .int a0)] [] (go_mk tx μ) (go_Z w Q) := by
  unfold fX12_played at h
  refine go_iload_n dX12_played_0 1 rfl ?_
  refine go_iconst (v := 0) dX12_played_1 (by decide) ?_
  refine go_aload_n dX12_played_2 0 rfl ?_
  refine pp_getR dX12_played_3 ff_X12_7 (Or.inr ⟨_, rfl⟩) sh_401 rf_401_0 ?_
  refine go_iconst (v := 2) dX12_played_6 (by decide) ?_
  refine pp_ildc (q := 2) dX12_played_7 sh_402 (by decide) ?_
  refine go_iconst (v := 1) dX12_played_8 (by decide) ?_
  refine go_isub dX12_played_9 ?_
  refine pp_callS (as := [.int a0, .int 0, .int ((μ.1 402 2) - 1)]) (st := []) (rv := (some (.int (fX12_isIn a0 0 ((μ.1 402 2) - 1))))) (μ1 := μ) (st1 := [.int (fX12_isIn a0 0 ((μ.1 402 2) - 1))]) dX12_played_10 ll_X12_63 (ctX12_isIn  rfl) rfl (Nat.le_of_ble_eq_true rfl) (Nat.le_of_ble_eq_true rfl) (go_Z_up w _) rfl rfl ?_
  refine go_if_ne 19 dX12_played_13 (by decide) (fun hc => ?_) (fun hc => ?_)
  · have h := go_ifn hc h
    refine go_iconst (v := 0) dX12_played_19 (by decide) ?_
    refine go_istore_n dX12_played_20 (by decide) rfl ?_
    show Go w 12 0 0 mtX12_played 21 [(2, .int 0), (0, .ref 401), (1, .int a0)] [] (go_mk tx μ) (go_Z w Q)
    obtain ⟨ρ3, hρ3, h⟩ := go_bind h
    refine go_pick [1, 2, 0] rfl ?_
    refine go_lp (G := ggX12_played_21 w tx Q a0 ) (E := eeX12_played_21 w tx Q a0 ) (fun s out h hK => lqX12_played_21 w tx Q a0   s.1 s.2 out h hK) go_fuel (0, μ) ρ3 hρ3 ?_
    cases h
    exact hK
  · have h := go_ifp hc h
    refine go_bipush (v := (-2)) dX12_played_16 (by decide) ?_
    cases h
    exact go_iret dX12_played_18 rfl hK
theorem ctX12_played {w : go_Wd} {tx : Nat} {μ : PM} {a0 : Int32} {r : Int32} {μ1 : PM}  (h : fX12_played μ a0 = some (r, μ1)) : Ct w 12 0 0 mtX12_played [.ref 401, .int a0] (go_mk tx μ) (fun r' M' => r' = some (.int r) ∧ M' = go_mk tx μ1) :=
  go_entry rfl (by decide) (Nat.le_of_ble_eq_true rfl) (cmX12_played w tx _ μ a0 _ h ⟨rfl, rfl⟩)
def fX12_happens (μ : PM) (a0 : Int32) : Option (PM) :=
  go_let ((jrem (a0 / 7) 10)) fun x1 => (if (jrem a0 7) = 0 then (if (μ.1 402 0) ≤ 0 then some (μ) else go_nz (μ.1 402 0) <| (fX12_isIce μ (jrem a0 (μ.1 402 0))).bind fun q4 => (if q4 = 0 then some (μ) else go_nz (μ.1 402 0) <| (fX12_put μ (jrem a0 (μ.1 402 0)) 0 0).bind fun q6 => some (q6))) else (if (jrem a0 7) = 1 then go_let (pm_wi μ 402 10 ((μ.1 402 10) ||| ((1 : Int32) <<< (x1 &&& 31)))) fun μ8 => some (μ8) else (if (jrem a0 7) = 2 then go_let (pm_wi μ 402 10 ((μ.1 402 10) &&& (((1 : Int32) <<< (x1 &&& 31)) ^^^ (-1)))) fun μ10 => some (μ10) else (if (jrem a0 7) = 3 then (if (μ.1 402 1) ≤ 0 then some (μ) else go_nz (μ.1 402 1) <| go_chk (24 + (jrem a0 (μ.1 402 1))) 1792 <| go_let (pm_wi μ 402 ((24 + (jrem a0 (μ.1 402 1))) : Int32).toNatClampNeg x1) fun μ13 => some (μ13)) else (if (jrem a0 7) = 4 then (if (μ.1 402 0) ≤ 0 then some (μ) else go_nz (μ.1 402 0) <| (fX12_isWith μ (jrem a0 (μ.1 402 0))).bind fun q17 => (if q17 = 0 then some (μ) else go_nz (μ.1 402 0) <| (fX12_put μ (jrem a0 (μ.1 402 0)) 0 0).bind fun q19 => some (q19))) else (if 9999 ≤ (μ.1 402 7) then some (μ) else (fX12_pass μ).bind fun q20 => some (q20)))))))
set_option maxRecDepth 20000 in
set_option maxHeartbeats 4000000 in
theorem cmX12_happens (w : go_Wd) (tx : Nat) (Q : Option Value → go_M → Prop) (μ : PM) (a0 : Int32) (out : PM) (h : fX12_happens μ a0 = some out) (hK : Q none (go_mk tx out)) : Go w 10 0 0 mtX12_happens 0 [(0, .ref 401), (1, .int a0)] [] (go_mk tx μ) (go_Z w Q) := by
  unfold fX12_happens at h
  refine go_iload_n dX12_happens_0 1 rfl ?_
  refine go_bipush (v := 7) dX12_happens_1 (by decide) ?_
  refine go_idiv dX12_happens_3 (by decide) ?_
  refine go_bipush (v := 10) dX12_happens_4 (by decide) ?_
  refine go_iremJ dX12_happens_6 (by decide) ?_
  obtain ⟨x1, hx1, h⟩ := go_let_e h
  refine go_top hx1 ?_
  refine go_istore_n dX12_happens_7 (by decide) rfl ?_
  show Go w 10 0 0 mtX12_happens 8 [(2, .int x1), (0, .ref 401), (1, .int a0)] [] (go_mk tx μ) (go_Z w Q)
  refine go_iload_n dX12_happens_8 2 rfl ?_
  refine go_bipush (v := 7) dX12_happens_9 (by decide) ?_
  refine go_iremJ dX12_happens_11 (by decide) ?_
  by_cases hc2 : (jrem a0 7) = 0
  · have h := go_ifp hc2 h
    refine go_tabIn (off := 36) 48 dX12_happens_12 0 hc2 (by decide) (by decide) (by decide) (by decide) ?_
    refine go_aload_n dX12_happens_48 1 rfl ?_
    refine pp_getR dX12_happens_49 ff_X12_7 (Or.inr ⟨_, rfl⟩) sh_401 rf_401_0 ?_
    refine go_iconst (v := 0) dX12_happens_52 (by decide) ?_
    refine pp_ildc (q := 0) dX12_happens_53 sh_402 (by decide) ?_
    refine go_if_le 210 dX12_happens_54 (by decide) (fun hc => ?_) (fun hc => ?_)
    · have h := go_ifp hc h
      cases h
      exact go_vret dX12_happens_210 rfl hK
    · have h := go_ifn hc h
      refine go_aload_n dX12_happens_57 1 rfl ?_
      refine go_iload_n dX12_happens_58 2 rfl ?_
      refine go_aload_n dX12_happens_59 1 rfl ?_
      refine pp_getR dX12_happens_60 ff_X12_7 (Or.inr ⟨_, rfl⟩) sh_401 rf_401_0 ?_
      refine go_iconst (v := 0) dX12_happens_63 (by decide) ?_
      refine pp_ildc (q := 0) dX12_happens_64 sh_402 (by decide) ?_
      obtain ⟨hz3, h⟩ := go_nz_e h
      refine go_iremJ dX12_happens_65 hz3 ?_
      obtain ⟨q4, hq4, h⟩ := go_bind h
      refine pp_callV (as := [.int (jrem a0 (μ.1 402 0))]) (st := []) (rv := (some (.int q4))) (μ1 := μ) (st1 := [.int q4]) dX12_happens_66 ll_X12_269 sh_401 (by decide) rfl (ctX12_isIce  hq4) rfl (Nat.le_of_ble_eq_true rfl) (Nat.le_of_ble_eq_true rfl) (go_Z_up w _) rfl rfl ?_
      refine go_if_eq 210 dX12_happens_69 (by decide) (fun hc => ?_) (fun hc => ?_)
      · have h := go_ifp hc h
        cases h
        exact go_vret dX12_happens_210 rfl hK
      · have h := go_ifn hc h
        refine go_aload_n dX12_happens_72 1 rfl ?_
        refine go_iload_n dX12_happens_73 2 rfl ?_
        refine go_aload_n dX12_happens_74 1 rfl ?_
        refine pp_getR dX12_happens_75 ff_X12_7 (Or.inr ⟨_, rfl⟩) sh_401 rf_401_0 ?_
        refine go_iconst (v := 0) dX12_happens_78 (by decide) ?_
        refine pp_ildc (q := 0) dX12_happens_79 sh_402 (by decide) ?_
        obtain ⟨hz5, h⟩ := go_nz_e h
        refine go_iremJ dX12_happens_80 hz5 ?_
        refine go_iconst (v := 0) dX12_happens_81 (by decide) ?_
        refine go_iconst (v := 0) dX12_happens_82 (by decide) ?_
        obtain ⟨q6, hq6, h⟩ := go_bind h
        refine pp_callV (as := [.int (jrem a0 (μ.1 402 0)), .int 0, .int 0]) (st := []) (rv := none) (μ1 := q6) (st1 := []) dX12_happens_83 ll_X12_76 sh_401 (by decide) rfl (ctX12_put  hq6) rfl (Nat.le_of_ble_eq_true rfl) (Nat.le_of_ble_eq_true rfl) (go_Z_up w _) rfl rfl ?_
        refine go_goto 210 dX12_happens_86 (by decide) ?_
        cases h
        exact go_vret dX12_happens_210 rfl hK
  · have h := go_ifn hc2 h
    by_cases hc7 : (jrem a0 7) = 1
    · have h := go_ifp hc7 h
      refine go_tabIn (off := 77) 89 dX12_happens_12 1 hc7 (by decide) (by decide) (by decide) (by decide) ?_
      refine go_aload_n dX12_happens_89 1 rfl ?_
      refine pp_getR dX12_happens_90 ff_X12_7 (Or.inr ⟨_, rfl⟩) sh_401 rf_401_0 ?_
      refine go_bipush (v := 10) dX12_happens_93 (by decide) ?_
      refine go_dup2 dX12_happens_95 rfl rfl ?_
      refine pp_ildc (q := 10) dX12_happens_96 sh_402 (by decide) ?_
      refine go_iconst (v := 1) dX12_happens_97 (by decide) ?_
      refine go_iload_n dX12_happens_98 0 rfl ?_
      refine go_ishl dX12_happens_99 ?_
      refine go_ior dX12_happens_100 ?_
      obtain ⟨μ8, hμ8, h⟩ := go_let_e h
      refine pp_istc (q := 10) dX12_happens_101 sh_402 (by decide) hμ8 ?_
      refine go_goto 210 dX12_happens_102 (by decide) ?_
      cases h
      exact go_vret dX12_happens_210 rfl hK
    · have h := go_ifn hc7 h
      by_cases hc9 : (jrem a0 7) = 2
      · have h := go_ifp hc9 h
        refine go_tabIn (off := 93) 105 dX12_happens_12 2 hc9 (by decide) (by decide) (by decide) (by decide) ?_
        refine go_aload_n dX12_happens_105 1 rfl ?_
        refine pp_getR dX12_happens_106 ff_X12_7 (Or.inr ⟨_, rfl⟩) sh_401 rf_401_0 ?_
        refine go_bipush (v := 10) dX12_happens_109 (by decide) ?_
        refine go_dup2 dX12_happens_111 rfl rfl ?_
        refine pp_ildc (q := 10) dX12_happens_112 sh_402 (by decide) ?_
        refine go_iconst (v := 1) dX12_happens_113 (by decide) ?_
        refine go_iload_n dX12_happens_114 0 rfl ?_
        refine go_ishl dX12_happens_115 ?_
        refine go_iconst (v := (-1)) dX12_happens_116 (by decide) ?_
        refine go_ixor dX12_happens_117 ?_
        refine go_iand dX12_happens_118 ?_
        obtain ⟨μ10, hμ10, h⟩ := go_let_e h
        refine pp_istc (q := 10) dX12_happens_119 sh_402 (by decide) hμ10 ?_
        refine go_goto 210 dX12_happens_120 (by decide) ?_
        cases h
        exact go_vret dX12_happens_210 rfl hK
      · have h := go_ifn hc9 h
        by_cases hc11 : (jrem a0 7) = 3
        · have h := go_ifp hc11 h
          refine go_tabIn (off := 111) 123 dX12_happens_12 3 hc11 (by decide) (by decide) (by decide) (by decide) ?_
          refine go_aload_n dX12_happens_123 1 rfl ?_
          refine pp_getR dX12_happens_124 ff_X12_7 (Or.inr ⟨_, rfl⟩) sh_401 rf_401_0 ?_
          refine go_iconst (v := 1) dX12_happens_127 (by decide) ?_
          refine pp_ildc (q := 1) dX12_happens_128 sh_402 (by decide) ?_
          refine go_if_le 210 dX12_happens_129 (by decide) (fun hc => ?_) (fun hc => ?_)
          · have h := go_ifp hc h
            cases h
            exact go_vret dX12_happens_210 rfl hK
          · have h := go_ifn hc h
            refine go_aload_n dX12_happens_132 1 rfl ?_
            refine pp_getR dX12_happens_133 ff_X12_7 (Or.inr ⟨_, rfl⟩) sh_401 rf_401_0 ?_
            refine go_bipush (v := 24) dX12_happens_136 (by decide) ?_
            refine go_iload_n dX12_happens_138 2 rfl ?_
            refine go_aload_n dX12_happens_139 1 rfl ?_
            refine pp_getR dX12_happens_140 ff_X12_7 (Or.inr ⟨_, rfl⟩) sh_401 rf_401_0 ?_
            refine go_iconst (v := 1) dX12_happens_143 (by decide) ?_
            refine pp_ildc (q := 1) dX12_happens_144 sh_402 (by decide) ?_
            obtain ⟨hz12, h⟩ := go_nz_e h
            refine go_iremJ dX12_happens_145 hz12 ?_
            refine go_iadd dX12_happens_146 ?_
            refine go_iload_n dX12_happens_147 0 rfl ?_
            obtain ⟨hz14, h⟩ := go_chk_e h
            obtain ⟨μ13, hμ13, h⟩ := go_let_e h
            refine pp_ist dX12_happens_148 sh_402 hz14 hμ13 ?_
            refine go_goto 210 dX12_happens_149 (by decide) ?_
            cases h
            exact go_vret dX12_happens_210 rfl hK
        · have h := go_ifn hc11 h
          by_cases hc15 : (jrem a0 7) = 4
          · have h := go_ifp hc15 h
            refine go_tabIn (off := 140) 152 dX12_happens_12 4 hc15 (by decide) (by decide) (by decide) (by decide) ?_
            refine go_aload_n dX12_happens_152 1 rfl ?_
            refine pp_getR dX12_happens_153 ff_X12_7 (Or.inr ⟨_, rfl⟩) sh_401 rf_401_0 ?_
            refine go_iconst (v := 0) dX12_happens_156 (by decide) ?_
            refine pp_ildc (q := 0) dX12_happens_157 sh_402 (by decide) ?_
            refine go_if_le 210 dX12_happens_158 (by decide) (fun hc => ?_) (fun hc => ?_)
            · have h := go_ifp hc h
              cases h
              exact go_vret dX12_happens_210 rfl hK
            · have h := go_ifn hc h
              refine go_aload_n dX12_happens_161 1 rfl ?_
              refine go_iload_n dX12_happens_162 2 rfl ?_
              refine go_aload_n dX12_happens_163 1 rfl ?_
              refine pp_getR dX12_happens_164 ff_X12_7 (Or.inr ⟨_, rfl⟩) sh_401 rf_401_0 ?_
              refine go_iconst (v := 0) dX12_happens_167 (by decide) ?_
              refine pp_ildc (q := 0) dX12_happens_168 sh_402 (by decide) ?_
              obtain ⟨hz16, h⟩ := go_nz_e h
              refine go_iremJ dX12_happens_169 hz16 ?_
              obtain ⟨q17, hq17, h⟩ := go_bind h
              refine pp_callV (as := [.int (jrem a0 (μ.1 402 0))]) (st := []) (rv := (some (.int q17))) (μ1 := μ) (st1 := [.int q17]) dX12_happens_170 ll_X12_354 sh_401 (by decide) rfl (ctX12_isWith  hq17) rfl (Nat.le_of_ble_eq_true rfl) (Nat.le_of_ble_eq_true rfl) (go_Z_up w _) rfl rfl ?_
              refine go_if_eq 210 dX12_happens_173 (by decide) (fun hc => ?_) (fun hc => ?_)
              · have h := go_ifp hc h
                cases h
                exact go_vret dX12_happens_210 rfl hK
              · have h := go_ifn hc h
                refine go_aload_n dX12_happens_176 1 rfl ?_
                refine go_iload_n dX12_happens_177 2 rfl ?_
                refine go_aload_n dX12_happens_178 1 rfl ?_
                refine pp_getR dX12_happens_179 ff_X12_7 (Or.inr ⟨_, rfl⟩) sh_401 rf_401_0 ?_
                refine go_iconst (v := 0) dX12_happens_182 (by decide) ?_
                refine pp_ildc (q := 0) dX12_happens_183 sh_402 (by decide) ?_
                obtain ⟨hz18, h⟩ := go_nz_e h
                refine go_iremJ dX12_happens_184 hz18 ?_
                refine go_iconst (v := 0) dX12_happens_185 (by decide) ?_
                refine go_iconst (v := 0) dX12_happens_186 (by decide) ?_
                obtain ⟨q19, hq19, h⟩ := go_bind h
                refine pp_callV (as := [.int (jrem a0 (μ.1 402 0)), .int 0, .int 0]) (st := []) (rv := none) (μ1 := q19) (st1 := []) dX12_happens_187 ll_X12_76 sh_401 (by decide) rfl (ctX12_put  hq19) rfl (Nat.le_of_ble_eq_true rfl) (Nat.le_of_ble_eq_true rfl) (go_Z_up w _) rfl rfl ?_
                refine go_goto 210 dX12_happens_190 (by decide) ?_
                cases h
                exact go_vret dX12_happens_210 rfl hK
          · have h := go_ifn hc15 h
            refine go_tabOut 193 dX12_happens_12 (by have g0 := go_ne_i (n := 0) hc2 (by decide); have g1 := go_ne_i (n := 1) hc7 (by decide); have g2 := go_ne_i (n := 2) hc9 (by decide); have g3 := go_ne_i (n := 3) hc11 (by decide); have g4 := go_ne_i (n := 4) hc15 (by decide); omega) (by decide) ?_
            refine go_aload_n dX12_happens_193 1 rfl ?_
            refine pp_getR dX12_happens_194 ff_X12_7 (Or.inr ⟨_, rfl⟩) sh_401 rf_401_0 ?_
            refine go_bipush (v := 7) dX12_happens_197 (by decide) ?_
            refine pp_ildc (q := 7) dX12_happens_199 sh_402 (by decide) ?_
            refine go_sipush (v := 9999) dX12_happens_200 (by decide) ?_
            refine go_icmp_ge 210 dX12_happens_203 (by decide) (fun hc => ?_) (fun hc => ?_)
            · have h := go_ifp hc h
              cases h
              exact go_vret dX12_happens_210 rfl hK
            · have h := go_ifn hc h
              refine go_aload_n dX12_happens_206 1 rfl ?_
              obtain ⟨q20, hq20, h⟩ := go_bind h
              refine pp_callV (as := []) (st := []) (rv := none) (μ1 := q20) (st1 := []) dX12_happens_207 ll_X12_357 sh_401 (by decide) rfl (ctX12_pass  hq20) rfl (Nat.le_of_ble_eq_true rfl) (Nat.le_of_ble_eq_true rfl) (go_Z_up w _) rfl rfl ?_
              cases h
              exact go_vret dX12_happens_210 rfl hK
theorem ctX12_happens {w : go_Wd} {tx : Nat} {μ : PM} {a0 : Int32} {μ1 : PM}  (h : fX12_happens μ a0 = some μ1) : Ct w 10 0 0 mtX12_happens [.ref 401, .int a0] (go_mk tx μ) (fun r' M' => r' = none ∧ M' = go_mk tx μ1) :=
  go_entry rfl (by decide) (Nat.le_of_ble_eq_true rfl) (cmX12_happens w tx _ μ a0 _ h ⟨rfl, rfl⟩)
def lbX12_springs_43 (a0 : Int32) (a1 : Int32)  (v3 : Int32) (μ : PM) : Option ((Int32 × PM) ⊕ (Int32 × PM)) :=
  (if a1 ≤ v3 then some (.inr (((μ.1 402 7), μ))) else go_let (fX12_anew μ) fun q3 => (fX12_happens q3 (μ.1 402 8)).bind fun q4 => some (.inl ((v3 + 1), q4)))
def fX12_springs (μ : PM) (a0 : Int32) (a1 : Int32) : Option (Int32 × PM) :=
  (if (fX12_isIn a0 0 9999) = 0 then some (((-1), μ)) else (if (fX12_isIn a1 1 40) = 0 then some (((-1), μ)) else (fX12_keep μ).bind fun q1 => go_let (pm_wi q1 402 8 ((a0 * 2) + 307)) fun μ2 => ((lp (fun s => lbX12_springs_43 a0 a1 s.1 s.2) go_fuel (0, μ2)).bind fun ρ5 => some ρ5)))
def ggX12_springs_43 (w : go_Wd) (tx : Nat) (Q : Option Value → go_M → Prop) (a0 : Int32) (a1 : Int32)  (s : Int32 × PM) : Prop := Go w 11 0 0 mtX12_springs 43 [(0, .ref 401), (2, .int a1), (3, .int s.1)] [] (go_mk tx s.2) (go_Z w Q)
def eeX12_springs_43 (w : go_Wd) (tx : Nat) (Q : Option Value → go_M → Prop) (a0 : Int32) (a1 : Int32)  (y : Int32 × PM) : Prop := Q (some (.int y.1)) (go_mk tx y.2)
set_option maxRecDepth 20000 in
set_option maxHeartbeats 4000000 in
theorem lqX12_springs_43 (w : go_Wd) (tx : Nat) (Q : Option Value → go_M → Prop) (a0 : Int32) (a1 : Int32)   (v3 : Int32) (μ : PM) (out : (Int32 × PM) ⊕ (Int32 × PM)) (h : lbX12_springs_43 a0 a1  v3 μ = some out) (hK : go_out (ggX12_springs_43 w tx Q a0 a1 ) (eeX12_springs_43 w tx Q a0 a1 ) out) : ggX12_springs_43 w tx Q a0 a1  (v3, μ) := by
  unfold lbX12_springs_43 at h
  show Go w 11 0 0 mtX12_springs 43 [(0, .ref 401), (2, .int a1), (3, .int v3)] [] (go_mk tx μ) (go_Z w Q)
  refine go_iload_n dX12_springs_43 2 rfl ?_
  refine go_iload_n dX12_springs_44 1 rfl ?_
  refine go_icmp_ge 73 dX12_springs_45 (by decide) (fun hc => ?_) (fun hc => ?_)
  · have h := go_ifp hc h
    refine go_aload_n dX12_springs_73 0 rfl ?_
    refine pp_getR dX12_springs_74 ff_X12_7 (Or.inr ⟨_, rfl⟩) sh_401 rf_401_0 ?_
    refine go_bipush (v := 7) dX12_springs_77 (by decide) ?_
    refine pp_ildc (q := 7) dX12_springs_79 sh_402 (by decide) ?_
    cases h
    exact go_iret dX12_springs_80 rfl hK
  · have h := go_ifn hc h
    refine go_aload_n dX12_springs_48 0 rfl ?_
    refine pp_getR dX12_springs_49 ff_X12_7 (Or.inr ⟨_, rfl⟩) sh_401 rf_401_0 ?_
    refine go_bipush (v := 8) dX12_springs_52 (by decide) ?_
    refine pp_ildc (q := 8) dX12_springs_54 sh_402 (by decide) ?_
    refine go_istore dX12_springs_55 (by decide) rfl ?_
    show Go w 11 0 0 mtX12_springs 57 [(4, .int (μ.1 402 8)), (0, .ref 401), (2, .int a1), (3, .int v3)] [] (go_mk tx μ) (go_Z w Q)
    refine go_aload_n dX12_springs_57 1 rfl ?_
    obtain ⟨q3, hq3, h⟩ := go_let_e h
    refine pp_callV (as := []) (st := []) (rv := none) (μ1 := q3) (st1 := []) dX12_springs_58 ll_X12_312 sh_401 (by decide) rfl (ctX12_anew  hq3.symm) rfl (Nat.le_of_ble_eq_true rfl) (Nat.le_of_ble_eq_true rfl) (go_Z_up w _) rfl rfl ?_
    refine go_aload_n dX12_springs_61 1 rfl ?_
    refine go_iload dX12_springs_62 0 rfl ?_
    obtain ⟨q4, hq4, h⟩ := go_bind h
    refine pp_callV (as := [.int (μ.1 402 8)]) (st := []) (rv := none) (μ1 := q4) (st1 := []) dX12_springs_64 ll_X12_385 sh_401 (by decide) rfl (ctX12_happens  hq4) rfl (Nat.le_of_ble_eq_true rfl) (Nat.le_of_ble_eq_true rfl) (go_Z_up w _) rfl rfl ?_
    refine go_iinc (v := (v3 + 1)) dX12_springs_67 3 rfl rfl (by decide) rfl ?_
    show Go w 11 0 0 mtX12_springs 70 [(3, .int (v3 + 1)), (4, .int (μ.1 402 8)), (0, .ref 401), (2, .int a1)] [] (go_mk tx q4) (go_Z w Q)
    refine go_goto 43 dX12_springs_70 (by decide) ?_
    cases h
    have hK : Go w 11 0 0 mtX12_springs 43 [(0, .ref 401), (2, .int a1), (3, .int (v3 + 1))] [] (go_mk tx q4) (go_Z w Q) := hK
    exact go_pick [2, 3, 0] rfl hK
set_option maxRecDepth 20000 in
set_option maxHeartbeats 4000000 in
theorem cmX12_springs (w : go_Wd) (tx : Nat) (Q : Option Value → go_M → Prop) (μ : PM) (a0 : Int32) (a1 : Int32) (out : Int32 × PM) (h : fX12_springs μ a0 a1 = some out) (hK : Q (some (.int out.1)) (go_mk tx out.2)) : Go w 11 0 0 mtX12_springs 0 [(0, .ref 401), (1, .int a0), (2, .int a1)] [] (go_mk tx μ) (go_Z w Q) := by
  unfold fX12_springs at h
  refine go_iload_n dX12_springs_0 1 rfl ?_
  refine go_iconst (v := 0) dX12_springs_1 (by decide) ?_
  refine go_sipush (v := 9999) dX12_springs_2 (by decide) ?_
  refine pp_callS (as := [.int a0, .int 0, .int 9999]) (st := []) (rv := (some (.int (fX12_isIn a0 0 9999)))) (μ1 := μ) (st1 := [.int (fX12_isIn a0 0 9999)]) dX12_springs_5 ll_X12_63 (ctX12_isIn  rfl) rfl (Nat.le_of_ble_eq_true rfl) (Nat.le_of_ble_eq_true rfl) (go_Z_up w _) rfl rfl ?_
  refine go_if_eq 21 dX12_springs_8 (by decide) (fun hc => ?_) (fun hc => ?_)
  · have h := go_ifp hc h
    refine go_iconst (v := (-1)) dX12_springs_21 (by decide) ?_
    cases h
    exact go_iret dX12_springs_22 rfl hK
  · have h := go_ifn hc h
    refine go_iload_n dX12_springs_11 2 rfl ?_
    refine go_iconst (v := 1) dX12_springs_12 (by decide) ?_
    refine go_bipush (v := 40) dX12_springs_13 (by decide) ?_
    refine pp_callS (as := [.int a1, .int 1, .int 40]) (st := []) (rv := (some (.int (fX12_isIn a1 1 40)))) (μ1 := μ) (st1 := [.int (fX12_isIn a1 1 40)]) dX12_springs_15 ll_X12_63 (ctX12_isIn  rfl) rfl (Nat.le_of_ble_eq_true rfl) (Nat.le_of_ble_eq_true rfl) (go_Z_up w _) rfl rfl ?_
    refine go_if_ne 23 dX12_springs_18 (by decide) (fun hc => ?_) (fun hc => ?_)
    · have h := go_ifn hc h
      refine go_aload_n dX12_springs_23 0 rfl ?_
      obtain ⟨q1, hq1, h⟩ := go_bind h
      refine pp_callV (as := []) (st := []) (rv := none) (μ1 := q1) (st1 := []) dX12_springs_24 ll_X12_348 sh_401 (by decide) rfl (ctX12_keep  hq1) rfl (Nat.le_of_ble_eq_true rfl) (Nat.le_of_ble_eq_true rfl) (go_Z_up w _) rfl rfl ?_
      refine go_aload_n dX12_springs_27 0 rfl ?_
      refine pp_getR dX12_springs_28 ff_X12_7 (Or.inr ⟨_, rfl⟩) sh_401 rf_401_0 ?_
      refine go_bipush (v := 8) dX12_springs_31 (by decide) ?_
      refine go_iload_n dX12_springs_33 1 rfl ?_
      refine go_iconst (v := 2) dX12_springs_34 (by decide) ?_
      refine go_imul dX12_springs_35 ?_
      refine go_sipush (v := 307) dX12_springs_36 (by decide) ?_
      refine go_iadd dX12_springs_39 ?_
      obtain ⟨μ2, hμ2, h⟩ := go_let_e h
      refine pp_istc (q := 8) dX12_springs_40 sh_402 (by decide) hμ2 ?_
      refine go_iconst (v := 0) dX12_springs_41 (by decide) ?_
      refine go_istore_n dX12_springs_42 (by decide) rfl ?_
      show Go w 11 0 0 mtX12_springs 43 [(3, .int 0), (0, .ref 401), (1, .int a0), (2, .int a1)] [] (go_mk tx μ2) (go_Z w Q)
      obtain ⟨ρ5, hρ5, h⟩ := go_bind h
      refine go_pick [1, 3, 0] rfl ?_
      refine go_lp (G := ggX12_springs_43 w tx Q a0 a1 ) (E := eeX12_springs_43 w tx Q a0 a1 ) (fun s out h hK => lqX12_springs_43 w tx Q a0 a1   s.1 s.2 out h hK) go_fuel (0, μ2) ρ5 hρ5 ?_
      cases h
      exact hK
    · have h := go_ifp hc h
      refine go_iconst (v := (-1)) dX12_springs_21 (by decide) ?_
      cases h
      exact go_iret dX12_springs_22 rfl hK
theorem ctX12_springs {w : go_Wd} {tx : Nat} {μ : PM} {a0 : Int32} {a1 : Int32} {r : Int32} {μ1 : PM}  (h : fX12_springs μ a0 a1 = some (r, μ1)) : Ct w 11 0 0 mtX12_springs [.ref 401, .int a0, .int a1] (go_mk tx μ) (fun r' M' => r' = some (.int r) ∧ M' = go_mk tx μ1) :=
  go_entry rfl (by decide) (Nat.le_of_ble_eq_true rfl) (cmX12_springs w tx _ μ a0 a1 _ h ⟨rfl, rfl⟩)
def lbX12_leftOf_15 (μ : PM) (a0 : Int32)  (v2 : Int32) (v3 : Int32) : Option ((Int32 × Int32) ⊕ (Int32)) :=
  (fX12_get μ a0 1).bind fun q4 => (if v3 ≤ q4 then some (.inr (v2)) else some (.inl ((v2 / 10), (v3 + (-1)))))
def fX12_leftOf (μ : PM) (a0 : Int32) : Option (Int32) :=
  go_chk (30 + a0) 1792 <| go_let ((μ.1 402 ((30 + a0) : Int32).toNatClampNeg)) fun x2 => (fX12_lengthOf x2).bind fun q3 => ((lp (fun s => lbX12_leftOf_15 μ a0 s.1 s.2) go_fuel (x2, q3)).bind fun ρ5 => some ρ5)
def ggX12_leftOf_15 (w : go_Wd) (tx : Nat) (Q : Option Value → go_M → Prop) (μ : PM) (a0 : Int32)  (s : Int32 × Int32) : Prop := Go w 1 0 0 mtX12_leftOf 15 [(0, .ref 401), (1, .int a0), (2, .int s.1), (3, .int s.2)] [] (go_mk tx μ) (go_Z w Q)
def eeX12_leftOf_15 (w : go_Wd) (tx : Nat) (Q : Option Value → go_M → Prop) (μ : PM) (a0 : Int32)  (y : Int32) : Prop := Q (some (.int y)) (go_mk tx μ)
set_option maxRecDepth 20000 in
set_option maxHeartbeats 4000000 in
theorem lqX12_leftOf_15 (w : go_Wd) (tx : Nat) (Q : Option Value → go_M → Prop) (μ : PM) (a0 : Int32)   (v2 : Int32) (v3 : Int32) (out : (Int32 × Int32) ⊕ (Int32)) (h : lbX12_leftOf_15 μ a0  v2 v3 = some out) (hK : go_out (ggX12_leftOf_15 w tx Q μ a0 ) (eeX12_leftOf_15 w tx Q μ a0 ) out) : ggX12_leftOf_15 w tx Q μ a0  (v2, v3) := by
  unfold lbX12_leftOf_15 at h
  show Go w 1 0 0 mtX12_leftOf 15 [(0, .ref 401), (1, .int a0), (2, .int v2), (3, .int v3)] [] (go_mk tx μ) (go_Z w Q)
  refine go_iload_n dX12_leftOf_15 3 rfl ?_
  refine go_aload_n dX12_leftOf_16 0 rfl ?_
  refine go_iload_n dX12_leftOf_17 1 rfl ?_
  refine go_iconst (v := 1) dX12_leftOf_18 (by decide) ?_
  obtain ⟨q4, hq4, h⟩ := go_bind h
  refine pp_callV (as := [.int a0, .int 1]) (st := [.int v3]) (rv := (some (.int q4))) (μ1 := μ) (st1 := [.int q4, .int v3]) dX12_leftOf_19 ll_X12_264 sh_401 (by decide) rfl (ctX12_get  hq4) rfl (Nat.le_of_ble_eq_true rfl) (Nat.le_of_ble_eq_true rfl) (go_Z_up w _) rfl rfl ?_
  refine go_icmp_le 36 dX12_leftOf_22 (by decide) (fun hc => ?_) (fun hc => ?_)
  · have h := go_ifp hc h
    refine go_iload_n dX12_leftOf_36 2 rfl ?_
    cases h
    exact go_iret dX12_leftOf_37 rfl hK
  · have h := go_ifn hc h
    refine go_iload_n dX12_leftOf_25 2 rfl ?_
    refine go_bipush (v := 10) dX12_leftOf_26 (by decide) ?_
    refine go_idiv dX12_leftOf_28 (by decide) ?_
    refine go_istore_n dX12_leftOf_29 (by decide) rfl ?_
    show Go w 1 0 0 mtX12_leftOf 30 [(2, .int (v2 / 10)), (0, .ref 401), (1, .int a0), (3, .int v3)] [] (go_mk tx μ) (go_Z w Q)
    refine go_iinc (v := (v3 + (-1))) dX12_leftOf_30 3 rfl rfl (by decide) rfl ?_
    show Go w 1 0 0 mtX12_leftOf 33 [(3, .int (v3 + (-1))), (2, .int (v2 / 10)), (0, .ref 401), (1, .int a0)] [] (go_mk tx μ) (go_Z w Q)
    refine go_goto 15 dX12_leftOf_33 (by decide) ?_
    cases h
    have hK : Go w 1 0 0 mtX12_leftOf 15 [(0, .ref 401), (1, .int a0), (2, .int (v2 / 10)), (3, .int (v3 + (-1)))] [] (go_mk tx μ) (go_Z w Q) := hK
    exact go_pick [2, 3, 1, 0] rfl hK
set_option maxRecDepth 20000 in
set_option maxHeartbeats 4000000 in
theorem cmX12_leftOf (w : go_Wd) (tx : Nat) (Q : Option Value → go_M → Prop) (μ : PM) (a0 : Int32) (out : Int32) (h : fX12_leftOf μ a0 = some out) (hK : Q (some (.int out)) (go_mk tx μ)) : Go w 1 0 0 mtX12_leftOf 0 [(0, .ref 401), (1, .int a0)] [] (go_mk tx μ) (go_Z w Q) := by
  unfold fX12_leftOf at h
  refine go_aload_n dX12_leftOf_0 0 rfl ?_
  refine pp_getR dX12_leftOf_1 ff_X12_7 (Or.inr ⟨_, rfl⟩) sh_401 rf_401_0 ?_
  refine go_bipush (v := 30) dX12_leftOf_4 (by decide) ?_
  refine go_iload_n dX12_leftOf_6 1 rfl ?_
  refine go_iadd dX12_leftOf_7 ?_
  obtain ⟨hz1, h⟩ := go_chk_e h
  refine pp_ild dX12_leftOf_8 sh_402 hz1 ?_
  obtain ⟨x2, hx2, h⟩ := go_let_e h
  refine go_top hx2 ?_
  refine go_istore_n dX12_leftOf_9 (by decide) rfl ?_
  show Go w 1 0 0 mtX12_leftOf 10 [(2, .int x2), (0, .ref 401), (1, .int a0)] [] (go_mk tx μ) (go_Z w Q)
  refine go_iload_n dX12_leftOf_10 0 rfl ?_
  obtain ⟨q3, hq3, h⟩ := go_bind h
  refine pp_callS (as := [.int x2]) (st := []) (rv := (some (.int q3))) (μ1 := μ) (st1 := [.int q3]) dX12_leftOf_11 ll_X12_80 (ctX12_lengthOf  hq3) rfl (Nat.le_of_ble_eq_true rfl) (Nat.le_of_ble_eq_true rfl) (go_Z_up w _) rfl rfl ?_
  refine go_istore_n dX12_leftOf_14 (by decide) rfl ?_
  show Go w 1 0 0 mtX12_leftOf 15 [(3, .int q3), (2, .int x2), (0, .ref 401), (1, .int a0)] [] (go_mk tx μ) (go_Z w Q)
  obtain ⟨ρ5, hρ5, h⟩ := go_bind h
  refine go_pick [2, 3, 1, 0] rfl ?_
  refine go_lp (G := ggX12_leftOf_15 w tx Q μ a0 ) (E := eeX12_leftOf_15 w tx Q μ a0 ) (fun s out h hK => lqX12_leftOf_15 w tx Q μ a0   s.1 s.2 out h hK) go_fuel (x2, q3) ρ5 hρ5 ?_
  cases h
  exact hK
theorem ctX12_leftOf {w : go_Wd} {tx : Nat} {μ : PM} {a0 : Int32} {r : Int32}  (h : fX12_leftOf μ a0 = some r) : Ct w 1 0 0 mtX12_leftOf [.ref 401, .int a0] (go_mk tx μ) (fun r' M' => r' = some (.int r) ∧ M' = go_mk tx μ) :=
  go_entry rfl (by decide) (Nat.le_of_ble_eq_true rfl) (cmX12_leftOf w tx _ μ a0 _ h ⟨rfl, rfl⟩)
def fX12_of (μ : PM) (a0 : Int32) (a1 : Int32) : Option (Int32) :=
  (if (fX12_isName μ a0) = 0 then some ((-2)) else (if a1 = 0 then go_chk (30 + a0) 1792 <| some ((μ.1 402 ((30 + a0) : Int32).toNatClampNeg)) else (if a1 = 1 then go_chk (36 + a0) 1792 <| some ((μ.1 402 ((36 + a0) : Int32).toNatClampNeg)) else (if a1 = 2 then (fX12_get μ a0 1).bind fun q6 => some (q6) else (if a1 = 3 then (fX12_get μ a0 0).bind fun q8 => some (q8) else (if a1 = 4 then (fX12_leftOf μ a0).bind fun q10 => some (q10) else some ((-2))))))))
set_option maxRecDepth 20000 in
set_option maxHeartbeats 4000000 in
theorem cmX12_of (w : go_Wd) (tx : Nat) (Q : Option Value → go_M → Prop) (μ : PM) (a0 : Int32) (a1 : Int32) (out : Int32) (h : fX12_of μ a0 a1 = some out) (hK : Q (some (.int out)) (go_mk tx μ)) : Go w 2 0 0 mtX12_of 0 [(0, .ref 401), (1, .int a0), (2, .int a1)] [] (go_mk tx μ) (go_Z w Q) := by
  unfold fX12_of at h
  refine go_aload_n dX12_of_0 0 rfl ?_
  refine go_iload_n dX12_of_1 1 rfl ?_
  refine pp_callV (as := [.int a0]) (st := []) (rv := (some (.int (fX12_isName μ a0)))) (μ1 := μ) (st1 := [.int (fX12_isName μ a0)]) dX12_of_2 ll_X12_261 sh_401 (by decide) rfl (ctX12_isName  rfl) rfl (Nat.le_of_ble_eq_true rfl) (Nat.le_of_ble_eq_true rfl) (go_Z_up w _) rfl rfl ?_
  refine go_if_ne 11 dX12_of_5 (by decide) (fun hc => ?_) (fun hc => ?_)
  · have h := go_ifn hc h
    refine go_iload_n dX12_of_11 2 rfl ?_
    by_cases hc1 : a1 = 0
    · have h := go_ifp hc1 h
      refine go_tabIn (off := 36) 48 dX12_of_12 0 hc1 (by decide) (by decide) (by decide) (by decide) ?_
      refine go_aload_n dX12_of_48 0 rfl ?_
      refine pp_getR dX12_of_49 ff_X12_7 (Or.inr ⟨_, rfl⟩) sh_401 rf_401_0 ?_
      refine go_bipush (v := 30) dX12_of_52 (by decide) ?_
      refine go_iload_n dX12_of_54 1 rfl ?_
      refine go_iadd dX12_of_55 ?_
      obtain ⟨hz2, h⟩ := go_chk_e h
      refine pp_ild dX12_of_56 sh_402 hz2 ?_
      cases h
      exact go_iret dX12_of_57 rfl hK
    · have h := go_ifn hc1 h
      by_cases hc3 : a1 = 1
      · have h := go_ifp hc3 h
        refine go_tabIn (off := 46) 58 dX12_of_12 1 hc3 (by decide) (by decide) (by decide) (by decide) ?_
        refine go_aload_n dX12_of_58 0 rfl ?_
        refine pp_getR dX12_of_59 ff_X12_7 (Or.inr ⟨_, rfl⟩) sh_401 rf_401_0 ?_
        refine go_bipush (v := 36) dX12_of_62 (by decide) ?_
        refine go_iload_n dX12_of_64 1 rfl ?_
        refine go_iadd dX12_of_65 ?_
        obtain ⟨hz4, h⟩ := go_chk_e h
        refine pp_ild dX12_of_66 sh_402 hz4 ?_
        cases h
        exact go_iret dX12_of_67 rfl hK
      · have h := go_ifn hc3 h
        by_cases hc5 : a1 = 2
        · have h := go_ifp hc5 h
          refine go_tabIn (off := 56) 68 dX12_of_12 2 hc5 (by decide) (by decide) (by decide) (by decide) ?_
          refine go_aload_n dX12_of_68 0 rfl ?_
          refine go_iload_n dX12_of_69 1 rfl ?_
          refine go_iconst (v := 1) dX12_of_70 (by decide) ?_
          obtain ⟨q6, hq6, h⟩ := go_bind h
          refine pp_callV (as := [.int a0, .int 1]) (st := []) (rv := (some (.int q6))) (μ1 := μ) (st1 := [.int q6]) dX12_of_71 ll_X12_264 sh_401 (by decide) rfl (ctX12_get  hq6) rfl (Nat.le_of_ble_eq_true rfl) (Nat.le_of_ble_eq_true rfl) (go_Z_up w _) rfl rfl ?_
          cases h
          exact go_iret dX12_of_74 rfl hK
        · have h := go_ifn hc5 h
          by_cases hc7 : a1 = 3
          · have h := go_ifp hc7 h
            refine go_tabIn (off := 63) 75 dX12_of_12 3 hc7 (by decide) (by decide) (by decide) (by decide) ?_
            refine go_aload_n dX12_of_75 0 rfl ?_
            refine go_iload_n dX12_of_76 1 rfl ?_
            refine go_iconst (v := 0) dX12_of_77 (by decide) ?_
            obtain ⟨q8, hq8, h⟩ := go_bind h
            refine pp_callV (as := [.int a0, .int 0]) (st := []) (rv := (some (.int q8))) (μ1 := μ) (st1 := [.int q8]) dX12_of_78 ll_X12_264 sh_401 (by decide) rfl (ctX12_get  hq8) rfl (Nat.le_of_ble_eq_true rfl) (Nat.le_of_ble_eq_true rfl) (go_Z_up w _) rfl rfl ?_
            cases h
            exact go_iret dX12_of_81 rfl hK
          · have h := go_ifn hc7 h
            by_cases hc9 : a1 = 4
            · have h := go_ifp hc9 h
              refine go_tabIn (off := 70) 82 dX12_of_12 4 hc9 (by decide) (by decide) (by decide) (by decide) ?_
              refine go_aload_n dX12_of_82 0 rfl ?_
              refine go_iload_n dX12_of_83 1 rfl ?_
              obtain ⟨q10, hq10, h⟩ := go_bind h
              refine pp_callV (as := [.int a0]) (st := []) (rv := (some (.int q10))) (μ1 := μ) (st1 := [.int q10]) dX12_of_84 ll_X12_388 sh_401 (by decide) rfl (ctX12_leftOf  hq10) rfl (Nat.le_of_ble_eq_true rfl) (Nat.le_of_ble_eq_true rfl) (go_Z_up w _) rfl rfl ?_
              cases h
              exact go_iret dX12_of_87 rfl hK
            · have h := go_ifn hc9 h
              refine go_tabOut 88 dX12_of_12 (by have g0 := go_ne_i (n := 0) hc1 (by decide); have g1 := go_ne_i (n := 1) hc3 (by decide); have g2 := go_ne_i (n := 2) hc5 (by decide); have g3 := go_ne_i (n := 3) hc7 (by decide); have g4 := go_ne_i (n := 4) hc9 (by decide); omega) (by decide) ?_
              refine go_bipush (v := (-2)) dX12_of_88 (by decide) ?_
              cases h
              exact go_iret dX12_of_90 rfl hK
  · have h := go_ifp hc h
    refine go_bipush (v := (-2)) dX12_of_8 (by decide) ?_
    cases h
    exact go_iret dX12_of_10 rfl hK
theorem ctX12_of {w : go_Wd} {tx : Nat} {μ : PM} {a0 : Int32} {a1 : Int32} {r : Int32}  (h : fX12_of μ a0 a1 = some r) : Ct w 2 0 0 mtX12_of [.ref 401, .int a0, .int a1] (go_mk tx μ) (fun r' M' => r' = some (.int r) ∧ M' = go_mk tx μ) :=
  go_entry rfl (by decide) (Nat.le_of_ble_eq_true rfl) (cmX12_of w tx _ μ a0 a1 _ h ⟨rfl, rfl⟩)
def jjX12_namesWith_35_4 (μ : PM) (a0 : Int32) (v3 : Int32) (s0 : Int32) (s1 : Int32) : Option ((Int32 × Int32) ⊕ (Int32)) :=
  some (.inl ((s0 ||| s1), (v3 + 1)))
def lbX12_namesWith_4 (μ : PM) (a0 : Int32)  (v2 : Int32) (v3 : Int32) : Option ((Int32 × Int32) ⊕ (Int32)) :=
  (if (μ.1 402 0) ≤ v3 then some (.inr (v2)) else (fX12_get μ v3 0).bind fun q1 => (if q1 = (20 + a0) then jjX12_namesWith_35_4 μ a0 v3 v2 (((1 : Int32) <<< (v3 &&& 31))) else jjX12_namesWith_35_4 μ a0 v3 v2 0))
def fX12_namesWith (μ : PM) (a0 : Int32) : Option (Int32) :=
  ((lp (fun s => lbX12_namesWith_4 μ a0 s.1 s.2) go_fuel (0, 0)).bind fun ρ2 => some ρ2)
def ggX12_namesWith_4 (w : go_Wd) (tx : Nat) (Q : Option Value → go_M → Prop) (μ : PM) (a0 : Int32)  (s : Int32 × Int32) : Prop := Go w 1 0 0 mtX12_namesWith 4 [(0, .ref 401), (1, .int a0), (2, .int s.1), (3, .int s.2)] [] (go_mk tx μ) (go_Z w Q)
def eeX12_namesWith_4 (w : go_Wd) (tx : Nat) (Q : Option Value → go_M → Prop) (μ : PM) (a0 : Int32)  (y : Int32) : Prop := Q (some (.int y)) (go_mk tx μ)
set_option maxRecDepth 20000 in
set_option maxHeartbeats 4000000 in
theorem jqX12_namesWith_35_4 (w : go_Wd) (tx : Nat) (Q : Option Value → go_M → Prop) (μ : PM) (a0 : Int32) (v3 : Int32)  (s0 : Int32) (s1 : Int32)  (out : (Int32 × Int32) ⊕ (Int32)) (h : jjX12_namesWith_35_4 μ a0 v3 s0 s1 = some out) (hK : go_out (ggX12_namesWith_4 w tx Q μ a0 ) (eeX12_namesWith_4 w tx Q μ a0 ) out) : Go w 1 0 0 mtX12_namesWith 35 [(0, .ref 401), (1, .int a0), (3, .int v3)] [.int s1, .int s0] (go_mk tx μ) (go_Z w Q) := by
  unfold jjX12_namesWith_35_4 at h
  refine go_ior dX12_namesWith_35 ?_
  refine go_istore_n dX12_namesWith_36 (by decide) rfl ?_
  show Go w 1 0 0 mtX12_namesWith 37 [(2, .int (s0 ||| s1)), (0, .ref 401), (1, .int a0), (3, .int v3)] [] (go_mk tx μ) (go_Z w Q)
  refine go_iinc (v := (v3 + 1)) dX12_namesWith_37 3 rfl rfl (by decide) rfl ?_
  show Go w 1 0 0 mtX12_namesWith 40 [(3, .int (v3 + 1)), (2, .int (s0 ||| s1)), (0, .ref 401), (1, .int a0)] [] (go_mk tx μ) (go_Z w Q)
  refine go_goto 4 dX12_namesWith_40 (by decide) ?_
  cases h
  have hK : Go w 1 0 0 mtX12_namesWith 4 [(0, .ref 401), (1, .int a0), (2, .int (s0 ||| s1)), (3, .int (v3 + 1))] [] (go_mk tx μ) (go_Z w Q) := hK
  exact go_pick [2, 3, 1, 0] rfl hK
set_option maxRecDepth 20000 in
set_option maxHeartbeats 4000000 in
theorem lqX12_namesWith_4 (w : go_Wd) (tx : Nat) (Q : Option Value → go_M → Prop) (μ : PM) (a0 : Int32)   (v2 : Int32) (v3 : Int32) (out : (Int32 × Int32) ⊕ (Int32)) (h : lbX12_namesWith_4 μ a0  v2 v3 = some out) (hK : go_out (ggX12_namesWith_4 w tx Q μ a0 ) (eeX12_namesWith_4 w tx Q μ a0 ) out) : ggX12_namesWith_4 w tx Q μ a0  (v2, v3) := by
  unfold lbX12_namesWith_4 at h
  show Go w 1 0 0 mtX12_namesWith 4 [(0, .ref 401), (1, .int a0), (2, .int v2), (3, .int v3)] [] (go_mk tx μ) (go_Z w Q)
  refine go_iload_n dX12_namesWith_4 3 rfl ?_
  refine go_aload_n dX12_namesWith_5 0 rfl ?_
  refine pp_getR dX12_namesWith_6 ff_X12_7 (Or.inr ⟨_, rfl⟩) sh_401 rf_401_0 ?_
  refine go_iconst (v := 0) dX12_namesWith_9 (by decide) ?_
  refine pp_ildc (q := 0) dX12_namesWith_10 sh_402 (by decide) ?_
  refine go_icmp_ge 43 dX12_namesWith_11 (by decide) (fun hc => ?_) (fun hc => ?_)
  · have h := go_ifp hc h
    refine go_iload_n dX12_namesWith_43 2 rfl ?_
    cases h
    exact go_iret dX12_namesWith_44 rfl hK
  · have h := go_ifn hc h
    refine go_iload_n dX12_namesWith_14 2 rfl ?_
    refine go_aload_n dX12_namesWith_15 0 rfl ?_
    refine go_iload_n dX12_namesWith_16 3 rfl ?_
    refine go_iconst (v := 0) dX12_namesWith_17 (by decide) ?_
    obtain ⟨q1, hq1, h⟩ := go_bind h
    refine pp_callV (as := [.int v3, .int 0]) (st := [.int v2]) (rv := (some (.int q1))) (μ1 := μ) (st1 := [.int q1, .int v2]) dX12_namesWith_18 ll_X12_264 sh_401 (by decide) rfl (ctX12_get  hq1) rfl (Nat.le_of_ble_eq_true rfl) (Nat.le_of_ble_eq_true rfl) (go_Z_up w _) rfl rfl ?_
    refine go_bipush (v := 20) dX12_namesWith_21 (by decide) ?_
    refine go_iload_n dX12_namesWith_23 1 rfl ?_
    refine go_iadd dX12_namesWith_24 ?_
    refine go_icmp_ne 34 dX12_namesWith_25 (by decide) (fun hc => ?_) (fun hc => ?_)
    · have h := go_ifn hc h
      refine go_iconst (v := 0) dX12_namesWith_34 (by decide) ?_
      refine go_pick [0, 1, 3] rfl ?_
      exact jqX12_namesWith_35_4 w tx Q μ a0 v3  v2 0  _ h hK
    · have h := go_ifp hc h
      refine go_iconst (v := 1) dX12_namesWith_28 (by decide) ?_
      refine go_iload_n dX12_namesWith_29 3 rfl ?_
      refine go_ishl dX12_namesWith_30 ?_
      refine go_goto 35 dX12_namesWith_31 (by decide) ?_
      refine go_pick [0, 1, 3] rfl ?_
      exact jqX12_namesWith_35_4 w tx Q μ a0 v3  v2 (((1 : Int32) <<< (v3 &&& 31)))  _ h hK
set_option maxRecDepth 20000 in
set_option maxHeartbeats 4000000 in
theorem cmX12_namesWith (w : go_Wd) (tx : Nat) (Q : Option Value → go_M → Prop) (μ : PM) (a0 : Int32) (out : Int32) (h : fX12_namesWith μ a0 = some out) (hK : Q (some (.int out)) (go_mk tx μ)) : Go w 1 0 0 mtX12_namesWith 0 [(0, .ref 401), (1, .int a0)] [] (go_mk tx μ) (go_Z w Q) := by
  unfold fX12_namesWith at h
  refine go_iconst (v := 0) dX12_namesWith_0 (by decide) ?_
  refine go_istore_n dX12_namesWith_1 (by decide) rfl ?_
  show Go w 1 0 0 mtX12_namesWith 2 [(2, .int 0), (0, .ref 401), (1, .int a0)] [] (go_mk tx μ) (go_Z w Q)
  refine go_iconst (v := 0) dX12_namesWith_2 (by decide) ?_
  refine go_istore_n dX12_namesWith_3 (by decide) rfl ?_
  show Go w 1 0 0 mtX12_namesWith 4 [(3, .int 0), (2, .int 0), (0, .ref 401), (1, .int a0)] [] (go_mk tx μ) (go_Z w Q)
  obtain ⟨ρ2, hρ2, h⟩ := go_bind h
  refine go_pick [2, 3, 1, 0] rfl ?_
  refine go_lp (G := ggX12_namesWith_4 w tx Q μ a0 ) (E := eeX12_namesWith_4 w tx Q μ a0 ) (fun s out h hK => lqX12_namesWith_4 w tx Q μ a0   s.1 s.2 out h hK) go_fuel (0, 0) ρ2 hρ2 ?_
  cases h
  exact hK
theorem ctX12_namesWith {w : go_Wd} {tx : Nat} {μ : PM} {a0 : Int32} {r : Int32}  (h : fX12_namesWith μ a0 = some r) : Ct w 1 0 0 mtX12_namesWith [.ref 401, .int a0] (go_mk tx μ) (fun r' M' => r' = some (.int r) ∧ M' = go_mk tx μ) :=
  go_entry rfl (by decide) (Nat.le_of_ble_eq_true rfl) (cmX12_namesWith w tx _ μ a0 _ h ⟨rfl, rfl⟩)
def fX12_ofFamily (μ : PM) (a0 : Int32) (a1 : Int32) : Option (Int32) :=
  (if (fX12_isFamily μ a0) = 0 then some ((-1)) else (if a1 = 0 then go_chk (42 + a0) 1792 <| some ((μ.1 402 ((42 + a0) : Int32).toNatClampNeg)) else (if a1 = 1 then go_chk (24 + a0) 1792 <| some ((μ.1 402 ((24 + a0) : Int32).toNatClampNeg)) else (if a1 = 2 then (fX12_namesWith μ a0).bind fun q1 => some (q1) else some ((-1))))))
set_option maxRecDepth 20000 in
set_option maxHeartbeats 4000000 in
theorem cmX12_ofFamily (w : go_Wd) (tx : Nat) (Q : Option Value → go_M → Prop) (μ : PM) (a0 : Int32) (a1 : Int32) (out : Int32) (h : fX12_ofFamily μ a0 a1 = some out) (hK : Q (some (.int out)) (go_mk tx μ)) : Go w 2 0 0 mtX12_ofFamily 0 [(0, .ref 401), (1, .int a0), (2, .int a1)] [] (go_mk tx μ) (go_Z w Q) := by
  unfold fX12_ofFamily at h
  refine go_aload_n dX12_ofFamily_0 0 rfl ?_
  refine go_iload_n dX12_ofFamily_1 1 rfl ?_
  refine pp_callV (as := [.int a0]) (st := []) (rv := (some (.int (fX12_isFamily μ a0)))) (μ1 := μ) (st1 := [.int (fX12_isFamily μ a0)]) dX12_ofFamily_2 ll_X12_351 sh_401 (by decide) rfl (ctX12_isFamily  rfl) rfl (Nat.le_of_ble_eq_true rfl) (Nat.le_of_ble_eq_true rfl) (go_Z_up w _) rfl rfl ?_
  refine go_if_ne 10 dX12_ofFamily_5 (by decide) (fun hc => ?_) (fun hc => ?_)
  · have h := go_ifn hc h
    refine go_iload_n dX12_ofFamily_10 2 rfl ?_
    refine go_if_ne 26 dX12_ofFamily_11 (by decide) (fun hc => ?_) (fun hc => ?_)
    · have h := go_ifn hc h
      refine go_iload_n dX12_ofFamily_26 2 rfl ?_
      refine go_iconst (v := 1) dX12_ofFamily_27 (by decide) ?_
      refine go_icmp_ne 43 dX12_ofFamily_28 (by decide) (fun hc => ?_) (fun hc => ?_)
      · have h := go_ifn hc h
        refine go_iload_n dX12_ofFamily_43 2 rfl ?_
        refine go_iconst (v := 2) dX12_ofFamily_44 (by decide) ?_
        refine go_icmp_ne 56 dX12_ofFamily_45 (by decide) (fun hc => ?_) (fun hc => ?_)
        · have h := go_ifn hc h
          refine go_iconst (v := (-1)) dX12_ofFamily_56 (by decide) ?_
          cases h
          exact go_iret dX12_ofFamily_57 rfl hK
        · have h := go_ifp hc h
          refine go_aload_n dX12_ofFamily_48 0 rfl ?_
          refine go_iload_n dX12_ofFamily_49 1 rfl ?_
          obtain ⟨q1, hq1, h⟩ := go_bind h
          refine pp_callV (as := [.int a0]) (st := []) (rv := (some (.int q1))) (μ1 := μ) (st1 := [.int q1]) dX12_ofFamily_50 ll_X12_391 sh_401 (by decide) rfl (ctX12_namesWith  hq1) rfl (Nat.le_of_ble_eq_true rfl) (Nat.le_of_ble_eq_true rfl) (go_Z_up w _) rfl rfl ?_
          refine go_goto 57 dX12_ofFamily_53 (by decide) ?_
          cases h
          exact go_iret dX12_ofFamily_57 rfl hK
      · have h := go_ifp hc h
        refine go_aload_n dX12_ofFamily_31 0 rfl ?_
        refine pp_getR dX12_ofFamily_32 ff_X12_7 (Or.inr ⟨_, rfl⟩) sh_401 rf_401_0 ?_
        refine go_bipush (v := 24) dX12_ofFamily_35 (by decide) ?_
        refine go_iload_n dX12_ofFamily_37 1 rfl ?_
        refine go_iadd dX12_ofFamily_38 ?_
        obtain ⟨hz2, h⟩ := go_chk_e h
        refine pp_ild dX12_ofFamily_39 sh_402 hz2 ?_
        refine go_goto 57 dX12_ofFamily_40 (by decide) ?_
        cases h
        exact go_iret dX12_ofFamily_57 rfl hK
    · have h := go_ifp hc h
      refine go_aload_n dX12_ofFamily_14 0 rfl ?_
      refine pp_getR dX12_ofFamily_15 ff_X12_7 (Or.inr ⟨_, rfl⟩) sh_401 rf_401_0 ?_
      refine go_bipush (v := 42) dX12_ofFamily_18 (by decide) ?_
      refine go_iload_n dX12_ofFamily_20 1 rfl ?_
      refine go_iadd dX12_ofFamily_21 ?_
      obtain ⟨hz3, h⟩ := go_chk_e h
      refine pp_ild dX12_ofFamily_22 sh_402 hz3 ?_
      refine go_goto 57 dX12_ofFamily_23 (by decide) ?_
      cases h
      exact go_iret dX12_ofFamily_57 rfl hK
  · have h := go_ifp hc h
    refine go_iconst (v := (-1)) dX12_ofFamily_8 (by decide) ?_
    cases h
    exact go_iret dX12_ofFamily_9 rfl hK
theorem ctX12_ofFamily {w : go_Wd} {tx : Nat} {μ : PM} {a0 : Int32} {a1 : Int32} {r : Int32}  (h : fX12_ofFamily μ a0 a1 = some r) : Ct w 2 0 0 mtX12_ofFamily [.ref 401, .int a0, .int a1] (go_mk tx μ) (fun r' M' => r' = some (.int r) ∧ M' = go_mk tx μ) :=
  go_entry rfl (by decide) (Nat.le_of_ble_eq_true rfl) (cmX12_ofFamily w tx _ μ a0 a1 _ h ⟨rfl, rfl⟩)
def jjX12_law_24 (μ : PM) (a0 : Int32) (a1 : Int32) (a2 : Int32)   : Option (Int32 × PM) :=
  (if a2 = 0 then (fX12_meltsOf μ (μ.1 402 3) a0).bind fun q4 => some ((q4.1, q4.2)) else (if a2 = 1 then (fX12_cellOf μ a0).bind fun q2 => (fX12_breaksOf μ a0 q2).bind fun q3 => some ((q3.1, q3.2)) else (if a2 = 2 then (fX12_claimsOf μ a0 a1).bind fun q1 => some ((q1.1, q1.2)) else some (((-100), μ)))))
def fX12_law (μ : PM) (a0 : Int32) (a1 : Int32) (a2 : Int32) : Option (Int32 × PM) :=
  (if (fX12_isName μ a0) = 0 then some (((-100), μ)) else (if a2 = 2 then (if (fX12_isFamily μ a1) = 0 then some (((-100), μ)) else jjX12_law_24 μ a0 a1 a2) else jjX12_law_24 μ a0 a1 a2))
set_option maxRecDepth 20000 in
set_option maxHeartbeats 4000000 in
theorem jqX12_law_24 (w : go_Wd) (tx : Nat) (Q : Option Value → go_M → Prop) (μ : PM) (a0 : Int32) (a1 : Int32) (a2 : Int32)     (out : Int32 × PM) (h : jjX12_law_24 μ a0 a1 a2   = some out) (hK : Q (some (.int out.1)) (go_mk tx out.2)) : Go w 7 0 0 mtX12_law 24 [(0, .ref 401), (1, .int a0), (2, .int a1), (3, .int a2)] [] (go_mk tx μ) (go_Z w Q) := by
  unfold jjX12_law_24 at h
  refine go_iload_n dX12_law_24 3 rfl ?_
  refine go_if_ne 42 dX12_law_25 (by decide) (fun hc => ?_) (fun hc => ?_)
  · have h := go_ifn hc h
    refine go_iload_n dX12_law_42 3 rfl ?_
    refine go_iconst (v := 1) dX12_law_43 (by decide) ?_
    refine go_icmp_ne 60 dX12_law_44 (by decide) (fun hc => ?_) (fun hc => ?_)
    · have h := go_ifn hc h
      refine go_iload_n dX12_law_60 3 rfl ?_
      refine go_iconst (v := 2) dX12_law_61 (by decide) ?_
      refine go_icmp_ne 74 dX12_law_62 (by decide) (fun hc => ?_) (fun hc => ?_)
      · have h := go_ifn hc h
        refine go_bipush (v := (-100)) dX12_law_74 (by decide) ?_
        cases h
        exact go_iret dX12_law_76 rfl hK
      · have h := go_ifp hc h
        refine go_aload_n dX12_law_65 0 rfl ?_
        refine go_iload_n dX12_law_66 1 rfl ?_
        refine go_iload_n dX12_law_67 2 rfl ?_
        obtain ⟨q1, hq1, h⟩ := go_bind h
        refine pp_callV (as := [.int a0, .int a1]) (st := []) (rv := (some (.int q1.1))) (μ1 := q1.2) (st1 := [.int q1.1]) dX12_law_68 ll_X12_330 sh_401 (by decide) rfl (ctX12_claimsOf  hq1) rfl (Nat.le_of_ble_eq_true rfl) (Nat.le_of_ble_eq_true rfl) (go_Z_up w _) rfl rfl ?_
        refine go_goto 76 dX12_law_71 (by decide) ?_
        cases h
        exact go_iret dX12_law_76 rfl hK
    · have h := go_ifp hc h
      refine go_aload_n dX12_law_47 0 rfl ?_
      refine go_iload_n dX12_law_48 1 rfl ?_
      refine go_aload_n dX12_law_49 0 rfl ?_
      refine go_iload_n dX12_law_50 1 rfl ?_
      obtain ⟨q2, hq2, h⟩ := go_bind h
      refine pp_callV (as := [.int a0]) (st := [.int a0, .ref 401]) (rv := (some (.int q2))) (μ1 := μ) (st1 := [.int q2, .int a0, .ref 401]) dX12_law_51 ll_X12_309 sh_401 (by decide) rfl (ctX12_cellOf  hq2) rfl (Nat.le_of_ble_eq_true rfl) (Nat.le_of_ble_eq_true rfl) (go_Z_up w _) rfl rfl ?_
      obtain ⟨q3, hq3, h⟩ := go_bind h
      refine pp_callV (as := [.int a0, .int q2]) (st := []) (rv := (some (.int q3.1))) (μ1 := q3.2) (st1 := [.int q3.1]) dX12_law_54 ll_X12_321 sh_401 (by decide) rfl (ctX12_breaksOf  hq3) rfl (Nat.le_of_ble_eq_true rfl) (Nat.le_of_ble_eq_true rfl) (go_Z_up w _) rfl rfl ?_
      refine go_goto 76 dX12_law_57 (by decide) ?_
      cases h
      exact go_iret dX12_law_76 rfl hK
  · have h := go_ifp hc h
    refine go_aload_n dX12_law_28 0 rfl ?_
    refine go_aload_n dX12_law_29 0 rfl ?_
    refine pp_getR dX12_law_30 ff_X12_7 (Or.inr ⟨_, rfl⟩) sh_401 rf_401_0 ?_
    refine go_iconst (v := 3) dX12_law_33 (by decide) ?_
    refine pp_ildc (q := 3) dX12_law_34 sh_402 (by decide) ?_
    refine go_iload_n dX12_law_35 1 rfl ?_
    obtain ⟨q4, hq4, h⟩ := go_bind h
    refine pp_callV (as := [.int (μ.1 402 3), .int a0]) (st := []) (rv := (some (.int q4.1))) (μ1 := q4.2) (st1 := [.int q4.1]) dX12_law_36 ll_X12_342 sh_401 (by decide) rfl (ctX12_meltsOf  hq4) rfl (Nat.le_of_ble_eq_true rfl) (Nat.le_of_ble_eq_true rfl) (go_Z_up w _) rfl rfl ?_
    refine go_goto 76 dX12_law_39 (by decide) ?_
    cases h
    exact go_iret dX12_law_76 rfl hK
set_option maxRecDepth 20000 in
set_option maxHeartbeats 4000000 in
theorem cmX12_law (w : go_Wd) (tx : Nat) (Q : Option Value → go_M → Prop) (μ : PM) (a0 : Int32) (a1 : Int32) (a2 : Int32) (out : Int32 × PM) (h : fX12_law μ a0 a1 a2 = some out) (hK : Q (some (.int out.1)) (go_mk tx out.2)) : Go w 7 0 0 mtX12_law 0 [(0, .ref 401), (1, .int a0), (2, .int a1), (3, .int a2)] [] (go_mk tx μ) (go_Z w Q) := by
  unfold fX12_law at h
  refine go_aload_n dX12_law_0 0 rfl ?_
  refine go_iload_n dX12_law_1 1 rfl ?_
  refine pp_callV (as := [.int a0]) (st := []) (rv := (some (.int (fX12_isName μ a0)))) (μ1 := μ) (st1 := [.int (fX12_isName μ a0)]) dX12_law_2 ll_X12_261 sh_401 (by decide) rfl (ctX12_isName  rfl) rfl (Nat.le_of_ble_eq_true rfl) (Nat.le_of_ble_eq_true rfl) (go_Z_up w _) rfl rfl ?_
  refine go_if_eq 21 dX12_law_5 (by decide) (fun hc => ?_) (fun hc => ?_)
  · have h := go_ifp hc h
    refine go_bipush (v := (-100)) dX12_law_21 (by decide) ?_
    cases h
    exact go_iret dX12_law_23 rfl hK
  · have h := go_ifn hc h
    refine go_iload_n dX12_law_8 3 rfl ?_
    refine go_iconst (v := 2) dX12_law_9 (by decide) ?_
    refine go_icmp_ne 24 dX12_law_10 (by decide) (fun hc => ?_) (fun hc => ?_)
    · have h := go_ifn hc h
      refine go_pick [0, 1, 2, 3] rfl ?_
      exact jqX12_law_24 w tx Q μ a0 a1 a2     _ h hK
    · have h := go_ifp hc h
      refine go_aload_n dX12_law_13 0 rfl ?_
      refine go_iload_n dX12_law_14 2 rfl ?_
      refine pp_callV (as := [.int a1]) (st := []) (rv := (some (.int (fX12_isFamily μ a1)))) (μ1 := μ) (st1 := [.int (fX12_isFamily μ a1)]) dX12_law_15 ll_X12_351 sh_401 (by decide) rfl (ctX12_isFamily  rfl) rfl (Nat.le_of_ble_eq_true rfl) (Nat.le_of_ble_eq_true rfl) (go_Z_up w _) rfl rfl ?_
      refine go_if_ne 24 dX12_law_18 (by decide) (fun hc => ?_) (fun hc => ?_)
      · have h := go_ifn hc h
        refine go_pick [0, 1, 2, 3] rfl ?_
        exact jqX12_law_24 w tx Q μ a0 a1 a2     _ h hK
      · have h := go_ifp hc h
        refine go_bipush (v := (-100)) dX12_law_21 (by decide) ?_
        cases h
        exact go_iret dX12_law_23 rfl hK
theorem ctX12_law {w : go_Wd} {tx : Nat} {μ : PM} {a0 : Int32} {a1 : Int32} {a2 : Int32} {r : Int32} {μ1 : PM}  (h : fX12_law μ a0 a1 a2 = some (r, μ1)) : Ct w 7 0 0 mtX12_law [.ref 401, .int a0, .int a1, .int a2] (go_mk tx μ) (fun r' M' => r' = some (.int r) ∧ M' = go_mk tx μ1) :=
  go_entry rfl (by decide) (Nat.le_of_ble_eq_true rfl) (cmX12_law w tx _ μ a0 a1 a2 _ h ⟨rfl, rfl⟩)
def fX12_is (μ : PM) (a0 : Int32) : Option (Int32) :=
  (if (fX12_isIn a0 0 3) = 0 then (if a0 = 4 then some ((μ.1 402 29)) else some ((-2))) else go_chk (7 + a0) 1792 <| some ((μ.1 402 ((7 + a0) : Int32).toNatClampNeg)))
set_option maxRecDepth 20000 in
set_option maxHeartbeats 4000000 in
theorem cmX12_is (w : go_Wd) (tx : Nat) (Q : Option Value → go_M → Prop) (μ : PM) (a0 : Int32) (out : Int32) (h : fX12_is μ a0 = some out) (hK : Q (some (.int out)) (go_mk tx μ)) : Go w 1 0 0 mtX12_is 0 [(0, .ref 401), (1, .int a0)] [] (go_mk tx μ) (go_Z w Q) := by
  unfold fX12_is at h
  refine go_iload_n dX12_is_0 1 rfl ?_
  refine go_iconst (v := 0) dX12_is_1 (by decide) ?_
  refine go_iconst (v := 3) dX12_is_2 (by decide) ?_
  refine pp_callS (as := [.int a0, .int 0, .int 3]) (st := []) (rv := (some (.int (fX12_isIn a0 0 3)))) (μ1 := μ) (st1 := [.int (fX12_isIn a0 0 3)]) dX12_is_3 ll_X12_63 (ctX12_isIn  rfl) rfl (Nat.le_of_ble_eq_true rfl) (Nat.le_of_ble_eq_true rfl) (go_Z_up w _) rfl rfl ?_
  refine go_if_eq 21 dX12_is_6 (by decide) (fun hc => ?_) (fun hc => ?_)
  · have h := go_ifp hc h
    refine go_iload_n dX12_is_21 1 rfl ?_
    refine go_iconst (v := 4) dX12_is_22 (by decide) ?_
    refine go_icmp_ne 36 dX12_is_23 (by decide) (fun hc => ?_) (fun hc => ?_)
    · have h := go_ifn hc h
      refine go_bipush (v := (-2)) dX12_is_36 (by decide) ?_
      cases h
      exact go_iret dX12_is_38 rfl hK
    · have h := go_ifp hc h
      refine go_aload_n dX12_is_26 0 rfl ?_
      refine pp_getR dX12_is_27 ff_X12_7 (Or.inr ⟨_, rfl⟩) sh_401 rf_401_0 ?_
      refine go_bipush (v := 29) dX12_is_30 (by decide) ?_
      refine pp_ildc (q := 29) dX12_is_32 sh_402 (by decide) ?_
      refine go_goto 38 dX12_is_33 (by decide) ?_
      cases h
      exact go_iret dX12_is_38 rfl hK
  · have h := go_ifn hc h
    refine go_aload_n dX12_is_9 0 rfl ?_
    refine pp_getR dX12_is_10 ff_X12_7 (Or.inr ⟨_, rfl⟩) sh_401 rf_401_0 ?_
    refine go_bipush (v := 7) dX12_is_13 (by decide) ?_
    refine go_iload_n dX12_is_15 1 rfl ?_
    refine go_iadd dX12_is_16 ?_
    obtain ⟨hz1, h⟩ := go_chk_e h
    refine pp_ild dX12_is_17 sh_402 hz1 ?_
    refine go_goto 38 dX12_is_18 (by decide) ?_
    cases h
    exact go_iret dX12_is_38 rfl hK
theorem ctX12_is {w : go_Wd} {tx : Nat} {μ : PM} {a0 : Int32} {r : Int32}  (h : fX12_is μ a0 = some r) : Ct w 1 0 0 mtX12_is [.ref 401, .int a0] (go_mk tx μ) (fun r' M' => r' = some (.int r) ∧ M' = go_mk tx μ) :=
  go_entry rfl (by decide) (Nat.le_of_ble_eq_true rfl) (cmX12_is w tx _ μ a0 _ h ⟨rfl, rfl⟩)
def fX12_entry (μ : PM) (a0 : Int32) (a1 : Int32) : Option (Int32) :=
  go_chk (1762 + a0) 1792 <| go_let ((μ.1 402 ((1762 + a0) : Int32).toNatClampNeg)) fun x2 => (if a1 = 0 then some ((x2 / 180)) else (if a1 = 1 then some ((jrem (x2 / 30) 6)) else (if a1 = 2 then some ((jrem (x2 / 10) 3)) else some ((jrem x2 10)))))
set_option maxRecDepth 20000 in
set_option maxHeartbeats 4000000 in
theorem cmX12_entry (w : go_Wd) (tx : Nat) (Q : Option Value → go_M → Prop) (μ : PM) (a0 : Int32) (a1 : Int32) (out : Int32) (h : fX12_entry μ a0 a1 = some out) (hK : Q (some (.int out)) (go_mk tx μ)) : Go w 0 0 0 mtX12_entry 0 [(0, .ref 401), (1, .int a0), (2, .int a1)] [] (go_mk tx μ) (go_Z w Q) := by
  unfold fX12_entry at h
  refine go_aload_n dX12_entry_0 0 rfl ?_
  refine pp_getR dX12_entry_1 ff_X12_7 (Or.inr ⟨_, rfl⟩) sh_401 rf_401_0 ?_
  refine go_sipush (v := 1762) dX12_entry_4 (by decide) ?_
  refine go_iload_n dX12_entry_7 1 rfl ?_
  refine go_iadd dX12_entry_8 ?_
  obtain ⟨hz1, h⟩ := go_chk_e h
  refine pp_ild dX12_entry_9 sh_402 hz1 ?_
  obtain ⟨x2, hx2, h⟩ := go_let_e h
  refine go_top hx2 ?_
  refine go_istore_n dX12_entry_10 (by decide) rfl ?_
  show Go w 0 0 0 mtX12_entry 11 [(3, .int x2), (0, .ref 401), (1, .int a0), (2, .int a1)] [] (go_mk tx μ) (go_Z w Q)
  refine go_iload_n dX12_entry_11 3 rfl ?_
  refine go_if_ne 23 dX12_entry_12 (by decide) (fun hc => ?_) (fun hc => ?_)
  · have h := go_ifn hc h
    refine go_iload_n dX12_entry_23 3 rfl ?_
    refine go_iconst (v := 1) dX12_entry_24 (by decide) ?_
    refine go_icmp_ne 38 dX12_entry_25 (by decide) (fun hc => ?_) (fun hc => ?_)
    · have h := go_ifn hc h
      refine go_iload_n dX12_entry_38 3 rfl ?_
      refine go_iconst (v := 2) dX12_entry_39 (by decide) ?_
      refine go_icmp_ne 52 dX12_entry_40 (by decide) (fun hc => ?_) (fun hc => ?_)
      · have h := go_ifn hc h
        refine go_iload_n dX12_entry_52 0 rfl ?_
        refine go_bipush (v := 10) dX12_entry_53 (by decide) ?_
        refine go_iremJ dX12_entry_55 (by decide) ?_
        cases h
        exact go_iret dX12_entry_56 rfl hK
      · have h := go_ifp hc h
        refine go_iload_n dX12_entry_43 0 rfl ?_
        refine go_bipush (v := 10) dX12_entry_44 (by decide) ?_
        refine go_idiv dX12_entry_46 (by decide) ?_
        refine go_iconst (v := 3) dX12_entry_47 (by decide) ?_
        refine go_iremJ dX12_entry_48 (by decide) ?_
        refine go_goto 56 dX12_entry_49 (by decide) ?_
        cases h
        exact go_iret dX12_entry_56 rfl hK
    · have h := go_ifp hc h
      refine go_iload_n dX12_entry_28 0 rfl ?_
      refine go_bipush (v := 30) dX12_entry_29 (by decide) ?_
      refine go_idiv dX12_entry_31 (by decide) ?_
      refine go_bipush (v := 6) dX12_entry_32 (by decide) ?_
      refine go_iremJ dX12_entry_34 (by decide) ?_
      refine go_goto 56 dX12_entry_35 (by decide) ?_
      cases h
      exact go_iret dX12_entry_56 rfl hK
  · have h := go_ifp hc h
    refine go_iload_n dX12_entry_15 0 rfl ?_
    refine go_sipush (v := 180) dX12_entry_16 (by decide) ?_
    refine go_idiv dX12_entry_19 (by decide) ?_
    refine go_goto 56 dX12_entry_20 (by decide) ?_
    cases h
    exact go_iret dX12_entry_56 rfl hK
theorem ctX12_entry {w : go_Wd} {tx : Nat} {μ : PM} {a0 : Int32} {a1 : Int32} {r : Int32}  (h : fX12_entry μ a0 a1 = some r) : Ct w 0 0 0 mtX12_entry [.ref 401, .int a0, .int a1] (go_mk tx μ) (fun r' M' => r' = some (.int r) ∧ M' = go_mk tx μ) :=
  go_entry rfl (by decide) (Nat.le_of_ble_eq_true rfl) (cmX12_entry w tx _ μ a0 a1 _ h ⟨rfl, rfl⟩)
def fX12_book (μ : PM) (a0 : Int32) (a1 : Int32) : Option (Int32) :=
  (if a0 = (-1) then some ((μ.1 402 11)) else (if (fX12_isIn a0 0 ((μ.1 402 11) - 1)) = 0 then some ((-2)) else (if (fX12_isIn a1 0 3) = 0 then some ((-2)) else (fX12_entry μ a0 a1).bind fun q1 => some (q1))))
set_option maxRecDepth 20000 in
set_option maxHeartbeats 4000000 in
theorem cmX12_book (w : go_Wd) (tx : Nat) (Q : Option Value → go_M → Prop) (μ : PM) (a0 : Int32) (a1 : Int32) (out : Int32) (h : fX12_book μ a0 a1 = some out) (hK : Q (some (.int out)) (go_mk tx μ)) : Go w 1 0 0 mtX12_book 0 [(0, .ref 401), (1, .int a0), (2, .int a1)] [] (go_mk tx μ) (go_Z w Q) := by
  unfold fX12_book at h
  refine go_iload_n dX12_book_0 1 rfl ?_
  refine go_iconst (v := (-1)) dX12_book_1 (by decide) ?_
  refine go_icmp_ne 13 dX12_book_2 (by decide) (fun hc => ?_) (fun hc => ?_)
  · have h := go_ifn hc h
    refine go_iload_n dX12_book_13 1 rfl ?_
    refine go_iconst (v := 0) dX12_book_14 (by decide) ?_
    refine go_aload_n dX12_book_15 0 rfl ?_
    refine pp_getR dX12_book_16 ff_X12_7 (Or.inr ⟨_, rfl⟩) sh_401 rf_401_0 ?_
    refine go_bipush (v := 11) dX12_book_19 (by decide) ?_
    refine pp_ildc (q := 11) dX12_book_21 sh_402 (by decide) ?_
    refine go_iconst (v := 1) dX12_book_22 (by decide) ?_
    refine go_isub dX12_book_23 ?_
    refine pp_callS (as := [.int a0, .int 0, .int ((μ.1 402 11) - 1)]) (st := []) (rv := (some (.int (fX12_isIn a0 0 ((μ.1 402 11) - 1))))) (μ1 := μ) (st1 := [.int (fX12_isIn a0 0 ((μ.1 402 11) - 1))]) dX12_book_24 ll_X12_63 (ctX12_isIn  rfl) rfl (Nat.le_of_ble_eq_true rfl) (Nat.le_of_ble_eq_true rfl) (go_Z_up w _) rfl rfl ?_
    refine go_if_eq 48 dX12_book_27 (by decide) (fun hc => ?_) (fun hc => ?_)
    · have h := go_ifp hc h
      refine go_bipush (v := (-2)) dX12_book_48 (by decide) ?_
      cases h
      exact go_iret dX12_book_50 rfl hK
    · have h := go_ifn hc h
      refine go_iload_n dX12_book_30 2 rfl ?_
      refine go_iconst (v := 0) dX12_book_31 (by decide) ?_
      refine go_iconst (v := 3) dX12_book_32 (by decide) ?_
      refine pp_callS (as := [.int a1, .int 0, .int 3]) (st := []) (rv := (some (.int (fX12_isIn a1 0 3)))) (μ1 := μ) (st1 := [.int (fX12_isIn a1 0 3)]) dX12_book_33 ll_X12_63 (ctX12_isIn  rfl) rfl (Nat.le_of_ble_eq_true rfl) (Nat.le_of_ble_eq_true rfl) (go_Z_up w _) rfl rfl ?_
      refine go_if_eq 48 dX12_book_36 (by decide) (fun hc => ?_) (fun hc => ?_)
      · have h := go_ifp hc h
        refine go_bipush (v := (-2)) dX12_book_48 (by decide) ?_
        cases h
        exact go_iret dX12_book_50 rfl hK
      · have h := go_ifn hc h
        refine go_aload_n dX12_book_39 0 rfl ?_
        refine go_iload_n dX12_book_40 1 rfl ?_
        refine go_iload_n dX12_book_41 2 rfl ?_
        obtain ⟨q1, hq1, h⟩ := go_bind h
        refine pp_callV (as := [.int a0, .int a1]) (st := []) (rv := (some (.int q1))) (μ1 := μ) (st1 := [.int q1]) dX12_book_42 ll_X12_394 sh_401 (by decide) rfl (ctX12_entry  hq1) rfl (Nat.le_of_ble_eq_true rfl) (Nat.le_of_ble_eq_true rfl) (go_Z_up w _) rfl rfl ?_
        refine go_goto 50 dX12_book_45 (by decide) ?_
        cases h
        exact go_iret dX12_book_50 rfl hK
  · have h := go_ifp hc h
    refine go_aload_n dX12_book_5 0 rfl ?_
    refine pp_getR dX12_book_6 ff_X12_7 (Or.inr ⟨_, rfl⟩) sh_401 rf_401_0 ?_
    refine go_bipush (v := 11) dX12_book_9 (by decide) ?_
    refine pp_ildc (q := 11) dX12_book_11 sh_402 (by decide) ?_
    cases h
    exact go_iret dX12_book_12 rfl hK
theorem ctX12_book {w : go_Wd} {tx : Nat} {μ : PM} {a0 : Int32} {a1 : Int32} {r : Int32}  (h : fX12_book μ a0 a1 = some r) : Ct w 1 0 0 mtX12_book [.ref 401, .int a0, .int a1] (go_mk tx μ) (fun r' M' => r' = some (.int r) ∧ M' = go_mk tx μ) :=
  go_entry rfl (by decide) (Nat.le_of_ble_eq_true rfl) (cmX12_book w tx _ μ a0 a1 _ h ⟨rfl, rfl⟩)
def jjX12_ledger_43_16 (μ : PM) (a0 : Int32) (v3 : Int32) (s0 : Int32) (s1 : Int32) : Option ((Int32 × Int32) ⊕ (Int32)) :=
  some (.inl ((s0 + s1), (v3 + 1)))
def lbX12_ledger_16 (μ : PM) (a0 : Int32)  (v2 : Int32) (v3 : Int32) : Option ((Int32 × Int32) ⊕ (Int32)) :=
  (if (μ.1 402 11) ≤ v3 then some (.inr (v2)) else (fX12_entry μ v3 2).bind fun q1 => (if q1 = a0 then jjX12_ledger_43_16 μ a0 v3 v2 1 else jjX12_ledger_43_16 μ a0 v3 v2 0))
def fX12_ledger (μ : PM) (a0 : Int32) : Option (Int32) :=
  (if (fX12_isIn a0 0 2) = 0 then some ((-2)) else ((lp (fun s => lbX12_ledger_16 μ a0 s.1 s.2) go_fuel (0, 0)).bind fun ρ2 => some ρ2))
def ggX12_ledger_16 (w : go_Wd) (tx : Nat) (Q : Option Value → go_M → Prop) (μ : PM) (a0 : Int32)  (s : Int32 × Int32) : Prop := Go w 1 0 0 mtX12_ledger 16 [(0, .ref 401), (1, .int a0), (2, .int s.1), (3, .int s.2)] [] (go_mk tx μ) (go_Z w Q)
def eeX12_ledger_16 (w : go_Wd) (tx : Nat) (Q : Option Value → go_M → Prop) (μ : PM) (a0 : Int32)  (y : Int32) : Prop := Q (some (.int y)) (go_mk tx μ)
set_option maxRecDepth 20000 in
set_option maxHeartbeats 4000000 in
theorem jqX12_ledger_43_16 (w : go_Wd) (tx : Nat) (Q : Option Value → go_M → Prop) (μ : PM) (a0 : Int32) (v3 : Int32)  (s0 : Int32) (s1 : Int32) (hs1 : s1 = 0 ∨ s1 = 1) (out : (Int32 × Int32) ⊕ (Int32)) (h : jjX12_ledger_43_16 μ a0 v3 s0 s1 = some out) (hK : go_out (ggX12_ledger_16 w tx Q μ a0 ) (eeX12_ledger_16 w tx Q μ a0 ) out) : Go w 1 0 0 mtX12_ledger 43 [(0, .ref 401), (1, .int a0), (3, .int v3)] [.int s1, .int s0] (go_mk tx μ) (go_Z w Q) := by
  unfold jjX12_ledger_43_16 at h
  refine go_iadd dX12_ledger_43 ?_
  refine go_istore_n dX12_ledger_44 (by decide) rfl ?_
  show Go w 1 0 0 mtX12_ledger 45 [(2, .int (s0 + s1)), (0, .ref 401), (1, .int a0), (3, .int v3)] [] (go_mk tx μ) (go_Z w Q)
  refine go_iinc (v := (v3 + 1)) dX12_ledger_45 3 rfl rfl (by decide) rfl ?_
  show Go w 1 0 0 mtX12_ledger 48 [(3, .int (v3 + 1)), (2, .int (s0 + s1)), (0, .ref 401), (1, .int a0)] [] (go_mk tx μ) (go_Z w Q)
  refine go_goto 16 dX12_ledger_48 (by decide) ?_
  cases h
  have hK : Go w 1 0 0 mtX12_ledger 16 [(0, .ref 401), (1, .int a0), (2, .int (s0 + s1)), (3, .int (v3 + 1))] [] (go_mk tx μ) (go_Z w Q) := hK
  exact go_pick [2, 3, 1, 0] rfl hK
set_option maxRecDepth 20000 in
set_option maxHeartbeats 4000000 in
theorem lqX12_ledger_16 (w : go_Wd) (tx : Nat) (Q : Option Value → go_M → Prop) (μ : PM) (a0 : Int32)   (v2 : Int32) (v3 : Int32) (out : (Int32 × Int32) ⊕ (Int32)) (h : lbX12_ledger_16 μ a0  v2 v3 = some out) (hK : go_out (ggX12_ledger_16 w tx Q μ a0 ) (eeX12_ledger_16 w tx Q μ a0 ) out) : ggX12_ledger_16 w tx Q μ a0  (v2, v3) := by
  unfold lbX12_ledger_16 at h
  show Go w 1 0 0 mtX12_ledger 16 [(0, .ref 401), (1, .int a0), (2, .int v2), (3, .int v3)] [] (go_mk tx μ) (go_Z w Q)
  refine go_iload_n dX12_ledger_16 3 rfl ?_
  refine go_aload_n dX12_ledger_17 0 rfl ?_
  refine pp_getR dX12_ledger_18 ff_X12_7 (Or.inr ⟨_, rfl⟩) sh_401 rf_401_0 ?_
  refine go_bipush (v := 11) dX12_ledger_21 (by decide) ?_
  refine pp_ildc (q := 11) dX12_ledger_23 sh_402 (by decide) ?_
  refine go_icmp_ge 51 dX12_ledger_24 (by decide) (fun hc => ?_) (fun hc => ?_)
  · have h := go_ifp hc h
    refine go_iload_n dX12_ledger_51 2 rfl ?_
    cases h
    exact go_iret dX12_ledger_52 rfl hK
  · have h := go_ifn hc h
    refine go_iload_n dX12_ledger_27 2 rfl ?_
    refine go_aload_n dX12_ledger_28 0 rfl ?_
    refine go_iload_n dX12_ledger_29 3 rfl ?_
    refine go_iconst (v := 2) dX12_ledger_30 (by decide) ?_
    obtain ⟨q1, hq1, h⟩ := go_bind h
    refine pp_callV (as := [.int v3, .int 2]) (st := [.int v2]) (rv := (some (.int q1))) (μ1 := μ) (st1 := [.int q1, .int v2]) dX12_ledger_31 ll_X12_394 sh_401 (by decide) rfl (ctX12_entry  hq1) rfl (Nat.le_of_ble_eq_true rfl) (Nat.le_of_ble_eq_true rfl) (go_Z_up w _) rfl rfl ?_
    refine go_iload_n dX12_ledger_34 1 rfl ?_
    refine go_icmp_ne 42 dX12_ledger_35 (by decide) (fun hc => ?_) (fun hc => ?_)
    · have h := go_ifn hc h
      refine go_iconst (v := 0) dX12_ledger_42 (by decide) ?_
      refine go_pick [0, 1, 3] rfl ?_
      exact jqX12_ledger_43_16 w tx Q μ a0 v3  v2 0 (Or.inl rfl) _ h hK
    · have h := go_ifp hc h
      refine go_iconst (v := 1) dX12_ledger_38 (by decide) ?_
      refine go_goto 43 dX12_ledger_39 (by decide) ?_
      refine go_pick [0, 1, 3] rfl ?_
      exact jqX12_ledger_43_16 w tx Q μ a0 v3  v2 1 (Or.inr rfl) _ h hK
set_option maxRecDepth 20000 in
set_option maxHeartbeats 4000000 in
theorem cmX12_ledger (w : go_Wd) (tx : Nat) (Q : Option Value → go_M → Prop) (μ : PM) (a0 : Int32) (out : Int32) (h : fX12_ledger μ a0 = some out) (hK : Q (some (.int out)) (go_mk tx μ)) : Go w 1 0 0 mtX12_ledger 0 [(0, .ref 401), (1, .int a0)] [] (go_mk tx μ) (go_Z w Q) := by
  unfold fX12_ledger at h
  refine go_iload_n dX12_ledger_0 1 rfl ?_
  refine go_iconst (v := 0) dX12_ledger_1 (by decide) ?_
  refine go_iconst (v := 2) dX12_ledger_2 (by decide) ?_
  refine pp_callS (as := [.int a0, .int 0, .int 2]) (st := []) (rv := (some (.int (fX12_isIn a0 0 2)))) (μ1 := μ) (st1 := [.int (fX12_isIn a0 0 2)]) dX12_ledger_3 ll_X12_63 (ctX12_isIn  rfl) rfl (Nat.le_of_ble_eq_true rfl) (Nat.le_of_ble_eq_true rfl) (go_Z_up w _) rfl rfl ?_
  refine go_if_ne 12 dX12_ledger_6 (by decide) (fun hc => ?_) (fun hc => ?_)
  · have h := go_ifn hc h
    refine go_iconst (v := 0) dX12_ledger_12 (by decide) ?_
    refine go_istore_n dX12_ledger_13 (by decide) rfl ?_
    show Go w 1 0 0 mtX12_ledger 14 [(2, .int 0), (0, .ref 401), (1, .int a0)] [] (go_mk tx μ) (go_Z w Q)
    refine go_iconst (v := 0) dX12_ledger_14 (by decide) ?_
    refine go_istore_n dX12_ledger_15 (by decide) rfl ?_
    show Go w 1 0 0 mtX12_ledger 16 [(3, .int 0), (2, .int 0), (0, .ref 401), (1, .int a0)] [] (go_mk tx μ) (go_Z w Q)
    obtain ⟨ρ2, hρ2, h⟩ := go_bind h
    refine go_pick [2, 3, 1, 0] rfl ?_
    refine go_lp (G := ggX12_ledger_16 w tx Q μ a0 ) (E := eeX12_ledger_16 w tx Q μ a0 ) (fun s out h hK => lqX12_ledger_16 w tx Q μ a0   s.1 s.2 out h hK) go_fuel (0, 0) ρ2 hρ2 ?_
    cases h
    exact hK
  · have h := go_ifp hc h
    refine go_bipush (v := (-2)) dX12_ledger_9 (by decide) ?_
    cases h
    exact go_iret dX12_ledger_11 rfl hK
theorem ctX12_ledger {w : go_Wd} {tx : Nat} {μ : PM} {a0 : Int32} {r : Int32}  (h : fX12_ledger μ a0 = some r) : Ct w 1 0 0 mtX12_ledger [.ref 401, .int a0] (go_mk tx μ) (fun r' M' => r' = some (.int r) ∧ M' = go_mk tx μ) :=
  go_entry rfl (by decide) (Nat.le_of_ble_eq_true rfl) (cmX12_ledger w tx _ μ a0 _ h ⟨rfl, rfl⟩)