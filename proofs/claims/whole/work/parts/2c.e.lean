def lbX3_sumOf_4 (μ : PM) (a0 : Int32)  (v2 : Int32) (v3 : Int32) : Option ((Int32 × Int32) ⊕ (Int32)) :=
  (if (μ.1 12 6) ≤ v3 then some (.inr (v2)) else (if 5 ≤ v3 then some (.inr (v2)) else (if (fX11_hasBit a0 v3) = 0 then some (.inl (v2, (v3 + 1))) else go_chk v3 5 <| go_let ((v2 + (μ.1 4 v3.toNatClampNeg))) fun x2 => some (.inl (x2, (v3 + 1))))))
def fX3_sumOf (μ : PM) (a0 : Int32) : Option (Int32) :=
  ((lp (fun s => lbX3_sumOf_4 μ a0 s.1 s.2) go_fuel (0, 0)).bind fun ρ3 => some ρ3)
def ggX3_sumOf_4 (w : go_Wd) (tx : Nat) (Q : Option Value → go_M → Prop) (μ : PM) (a0 : Int32)  (s : Int32 × Int32) : Prop := Go w 1 0 0 mtX3_sumOf 4 [(0, .ref 398), (1, .int a0), (2, .int s.1), (3, .int s.2)] [] (go_mk tx μ) (go_Z w Q)
def eeX3_sumOf_4 (w : go_Wd) (tx : Nat) (Q : Option Value → go_M → Prop) (μ : PM) (a0 : Int32)  (y : Int32) : Prop := Q (some (.int y)) (go_mk tx μ)
set_option maxRecDepth 20000 in
set_option maxHeartbeats 4000000 in
theorem lqX3_sumOf_4 (w : go_Wd) (tx : Nat) (Q : Option Value → go_M → Prop) (μ : PM) (a0 : Int32)   (v2 : Int32) (v3 : Int32) (out : (Int32 × Int32) ⊕ (Int32)) (h : lbX3_sumOf_4 μ a0  v2 v3 = some out) (hK : go_out (ggX3_sumOf_4 w tx Q μ a0 ) (eeX3_sumOf_4 w tx Q μ a0 ) out) : ggX3_sumOf_4 w tx Q μ a0  (v2, v3) := by
  unfold lbX3_sumOf_4 at h
  show Go w 1 0 0 mtX3_sumOf 4 [(0, .ref 398), (1, .int a0), (2, .int v2), (3, .int v3)] [] (go_mk tx μ) (go_Z w Q)
  refine go_iload_n dX3_sumOf_4 3 rfl ?_
  refine go_aload_n dX3_sumOf_5 0 rfl ?_
  refine pp_getR dX3_sumOf_6 ff_X3_9 (Or.inl ⟨_, rfl⟩) sh_398 rf_398_0 ?_
  refine pp_getR dX3_sumOf_9 ff_X3_25 (Or.inl ⟨_, rfl⟩) go_isV_1.1 rf_1_10 ?_
  refine pp_getI dX3_sumOf_12 ff_X3_29 (by decide) go_isW_12.1 ?_
  refine go_icmp_ge 49 dX3_sumOf_15 (by decide) (fun hc => ?_) (fun hc => ?_)
  · have h := go_ifp hc h
    refine go_iload_n dX3_sumOf_49 2 rfl ?_
    cases h
    exact go_iret dX3_sumOf_50 rfl hK
  · have h := go_ifn hc h
    refine go_iload_n dX3_sumOf_18 3 rfl ?_
    refine go_iconst (v := 5) dX3_sumOf_19 (by decide) ?_
    refine go_icmp_ge 49 dX3_sumOf_20 (by decide) (fun hc => ?_) (fun hc => ?_)
    · have h := go_ifp hc h
      refine go_iload_n dX3_sumOf_49 2 rfl ?_
      cases h
      exact go_iret dX3_sumOf_50 rfl hK
    · have h := go_ifn hc h
      refine go_iload_n dX3_sumOf_23 1 rfl ?_
      refine go_iload_n dX3_sumOf_24 3 rfl ?_
      refine pp_callSN (as := [.int a0, .int v3]) (st := []) (rv := (some (.int (fX11_hasBit a0 v3)))) (μ1 := μ) (st1 := [.int (fX11_hasBit a0 v3)]) dX3_sumOf_25 ll_X3_40 (ctX11_hasBit  rfl) rfl (Nat.le_of_ble_eq_true rfl) (Nat.le_of_ble_eq_true rfl) (go_Z_up w _) rfl rfl ?_
      refine go_if_eq 43 dX3_sumOf_28 (by decide) (fun hc => ?_) (fun hc => ?_)
      · have h := go_ifp hc h
        refine go_iinc (v := (v3 + 1)) dX3_sumOf_43 3 rfl rfl (by decide) rfl ?_
        show Go w 1 0 0 mtX3_sumOf 46 [(3, .int (v3 + 1)), (0, .ref 398), (1, .int a0), (2, .int v2)] [] (go_mk tx μ) (go_Z w Q)
        refine go_goto 4 dX3_sumOf_46 (by decide) ?_
        cases h
        have hK : Go w 1 0 0 mtX3_sumOf 4 [(0, .ref 398), (1, .int a0), (2, .int v2), (3, .int (v3 + 1))] [] (go_mk tx μ) (go_Z w Q) := hK
        exact go_pick [1, 2, 3, 0] rfl hK
      · have h := go_ifn hc h
        refine go_iload_n dX3_sumOf_31 2 rfl ?_
        refine go_aload_n dX3_sumOf_32 0 rfl ?_
        refine pp_getR dX3_sumOf_33 ff_X3_9 (Or.inl ⟨_, rfl⟩) sh_398 rf_398_0 ?_
        refine pp_getR dX3_sumOf_36 ff_X3_57 (Or.inr ⟨_, rfl⟩) go_isV_1.1 rf_1_2 ?_
        refine go_iload_n dX3_sumOf_39 3 rfl ?_
        obtain ⟨hz1, h⟩ := go_chk_e h
        refine pp_ild dX3_sumOf_40 sh_4 hz1 ?_
        refine go_iadd dX3_sumOf_41 ?_
        obtain ⟨x2, hx2, h⟩ := go_let_e h
        refine go_top hx2 ?_
        refine go_istore_n dX3_sumOf_42 (by decide) rfl ?_
        show Go w 1 0 0 mtX3_sumOf 43 [(2, .int x2), (0, .ref 398), (1, .int a0), (3, .int v3)] [] (go_mk tx μ) (go_Z w Q)
        refine go_iinc (v := (v3 + 1)) dX3_sumOf_43 3 rfl rfl (by decide) rfl ?_
        show Go w 1 0 0 mtX3_sumOf 46 [(3, .int (v3 + 1)), (2, .int x2), (0, .ref 398), (1, .int a0)] [] (go_mk tx μ) (go_Z w Q)
        refine go_goto 4 dX3_sumOf_46 (by decide) ?_
        cases h
        have hK : Go w 1 0 0 mtX3_sumOf 4 [(0, .ref 398), (1, .int a0), (2, .int x2), (3, .int (v3 + 1))] [] (go_mk tx μ) (go_Z w Q) := hK
        exact go_pick [2, 3, 1, 0] rfl hK
set_option maxRecDepth 20000 in
set_option maxHeartbeats 4000000 in
theorem cmX3_sumOf (w : go_Wd) (tx : Nat) (Q : Option Value → go_M → Prop) (μ : PM) (a0 : Int32) (out : Int32) (h : fX3_sumOf μ a0 = some out) (hK : Q (some (.int out)) (go_mk tx μ)) : Go w 1 0 0 mtX3_sumOf 0 [(0, .ref 398), (1, .int a0)] [] (go_mk tx μ) (go_Z w Q) := by
  unfold fX3_sumOf at h
  refine go_iconst (v := 0) dX3_sumOf_0 (by decide) ?_
  refine go_istore_n dX3_sumOf_1 (by decide) rfl ?_
  show Go w 1 0 0 mtX3_sumOf 2 [(2, .int 0), (0, .ref 398), (1, .int a0)] [] (go_mk tx μ) (go_Z w Q)
  refine go_iconst (v := 0) dX3_sumOf_2 (by decide) ?_
  refine go_istore_n dX3_sumOf_3 (by decide) rfl ?_
  show Go w 1 0 0 mtX3_sumOf 4 [(3, .int 0), (2, .int 0), (0, .ref 398), (1, .int a0)] [] (go_mk tx μ) (go_Z w Q)
  obtain ⟨ρ3, hρ3, h⟩ := go_bind h
  refine go_pick [2, 3, 1, 0] rfl ?_
  refine go_lp (G := ggX3_sumOf_4 w tx Q μ a0 ) (E := eeX3_sumOf_4 w tx Q μ a0 ) (fun s out h hK => lqX3_sumOf_4 w tx Q μ a0   s.1 s.2 out h hK) go_fuel (0, 0) ρ3 hρ3 ?_
  cases h
  exact hK
theorem ctX3_sumOf {w : go_Wd} {tx : Nat} {μ : PM} {a0 : Int32} {r : Int32}  (h : fX3_sumOf μ a0 = some r) : Ct w 1 0 0 mtX3_sumOf [.ref 398, .int a0] (go_mk tx μ) (fun r' M' => r' = some (.int r) ∧ M' = go_mk tx μ) :=
  go_entry rfl (by decide) (Nat.le_of_ble_eq_true rfl) (cmX3_sumOf w tx _ μ a0 _ h ⟨rfl, rfl⟩)
def fX3_reachesQuota (μ : PM) (a0 : Int32) : Option (Int32) :=
  (fX3_sumOf μ a0).bind fun q1 => (if q1 < (μ.1 1 15) then some (0) else some (1))
set_option maxRecDepth 20000 in
set_option maxHeartbeats 4000000 in
theorem cmX3_reachesQuota (w : go_Wd) (tx : Nat) (Q : Option Value → go_M → Prop) (μ : PM) (a0 : Int32) (out : Int32) (h : fX3_reachesQuota μ a0 = some out) (hK : Q (some (.int out)) (go_mk tx μ)) : Go w 2 0 0 mtX3_reachesQuota 0 [(0, .ref 398), (1, .int a0)] [] (go_mk tx μ) (go_Z w Q) := by
  unfold fX3_reachesQuota at h
  refine go_aload_n dX3_reachesQuota_0 0 rfl ?_
  refine go_iload_n dX3_reachesQuota_1 1 rfl ?_
  obtain ⟨q1, hq1, h⟩ := go_bind h
  refine pp_callV (as := [.int a0]) (st := []) (rv := (some (.int q1))) (μ1 := μ) (st1 := [.int q1]) dX3_reachesQuota_2 ll_X3_15 sh_398 (by decide) rfl (ctX3_sumOf  hq1) rfl (Nat.le_of_ble_eq_true rfl) (Nat.le_of_ble_eq_true rfl) (go_Z_up w _) rfl rfl ?_
  refine go_aload_n dX3_reachesQuota_5 0 rfl ?_
  refine pp_getR dX3_reachesQuota_6 ff_X3_9 (Or.inl ⟨_, rfl⟩) sh_398 rf_398_0 ?_
  refine pp_getI dX3_reachesQuota_9 ff_X3_19 (by decide) go_isV_1.1 ?_
  refine go_icmp_lt 19 dX3_reachesQuota_12 (by decide) (fun hc => ?_) (fun hc => ?_)
  · have h := go_ifp hc h
    refine go_iconst (v := 0) dX3_reachesQuota_19 (by decide) ?_
    cases h
    exact go_zret dX3_reachesQuota_20 rfl (Or.inl rfl) hK
  · have h := go_ifn hc h
    refine go_iconst (v := 1) dX3_reachesQuota_15 (by decide) ?_
    refine go_goto 20 dX3_reachesQuota_16 (by decide) ?_
    cases h
    exact go_zret dX3_reachesQuota_20 rfl (Or.inr rfl) hK
theorem ctX3_reachesQuota {w : go_Wd} {tx : Nat} {μ : PM} {a0 : Int32} {r : Int32}  (h : fX3_reachesQuota μ a0 = some r) : Ct w 2 0 0 mtX3_reachesQuota [.ref 398, .int a0] (go_mk tx μ) (fun r' M' => r' = some (.int r) ∧ M' = go_mk tx μ) :=
  go_entry rfl (by decide) (Nat.le_of_ble_eq_true rfl) (cmX3_reachesQuota w tx _ μ a0 _ h ⟨rfl, rfl⟩)
def fJ6_bitCount_0f7a4 (a0 : Int32) : Int32 :=
  go_let ((a0 - ((jushr a0 1) &&& 1431655765))) fun x1 => go_let (((x1 &&& 858993459) + ((jushr x1 2) &&& 858993459))) fun x2 => go_let (((x2 + (jushr x2 4)) &&& 252645135)) fun x3 => go_let ((x3 + (jushr x3 8))) fun x4 => go_let ((x4 + (jushr x4 16))) fun x5 => (x5 &&& 63)
set_option maxRecDepth 20000 in
set_option maxHeartbeats 4000000 in
theorem cmJ6_bitCount_0f7a4 (w : go_Wd) (tx : Nat) (Q : Option Value → go_M → Prop) (μ : PM) (a0 : Int32) (out : Int32) (h : fJ6_bitCount_0f7a4 a0 = out) (hK : Q (some (.int out)) (go_mk tx μ)) : Go w 0 0 0 mtJ6_bitCount_0f7a4 0 [(0, .int a0)] [] (go_mk tx μ) (go_Z w Q) := by
  unfold fJ6_bitCount_0f7a4 at h
  refine go_iload_n dJ6_bitCount_0f7a4_0 0 rfl ?_
  refine go_iload_n dJ6_bitCount_0f7a4_1 0 rfl ?_
  refine go_iconst (v := 1) dJ6_bitCount_0f7a4_2 (by decide) ?_
  refine go_iushr (v := (jushr a0 1)) dJ6_bitCount_0f7a4_3 rfl ?_
  refine go_ldcw dJ6_bitCount_0f7a4_4 kk_J6_265 ?_
  refine go_iand dJ6_bitCount_0f7a4_7 ?_
  refine go_isub dJ6_bitCount_0f7a4_8 ?_
  obtain ⟨x1, hx1, h⟩ := go_let_e h
  refine go_top hx1 ?_
  refine go_istore_n dJ6_bitCount_0f7a4_9 (by decide) rfl ?_
  show Go w 0 0 0 mtJ6_bitCount_0f7a4 10 [(0, .int x1)] [] (go_mk tx μ) (go_Z w Q)
  refine go_iload_n dJ6_bitCount_0f7a4_10 0 rfl ?_
  refine go_ldcw dJ6_bitCount_0f7a4_11 kk_J6_266 ?_
  refine go_iand dJ6_bitCount_0f7a4_14 ?_
  refine go_iload_n dJ6_bitCount_0f7a4_15 0 rfl ?_
  refine go_iconst (v := 2) dJ6_bitCount_0f7a4_16 (by decide) ?_
  refine go_iushr (v := (jushr x1 2)) dJ6_bitCount_0f7a4_17 rfl ?_
  refine go_ldcw dJ6_bitCount_0f7a4_18 kk_J6_266 ?_
  refine go_iand dJ6_bitCount_0f7a4_21 ?_
  refine go_iadd dJ6_bitCount_0f7a4_22 ?_
  obtain ⟨x2, hx2, h⟩ := go_let_e h
  refine go_top hx2 ?_
  refine go_istore_n dJ6_bitCount_0f7a4_23 (by decide) rfl ?_
  show Go w 0 0 0 mtJ6_bitCount_0f7a4 24 [(0, .int x2)] [] (go_mk tx μ) (go_Z w Q)
  refine go_iload_n dJ6_bitCount_0f7a4_24 0 rfl ?_
  refine go_iload_n dJ6_bitCount_0f7a4_25 0 rfl ?_
  refine go_iconst (v := 4) dJ6_bitCount_0f7a4_26 (by decide) ?_
  refine go_iushr (v := (jushr x2 4)) dJ6_bitCount_0f7a4_27 rfl ?_
  refine go_iadd dJ6_bitCount_0f7a4_28 ?_
  refine go_ldcw dJ6_bitCount_0f7a4_29 kk_J6_267 ?_
  refine go_iand dJ6_bitCount_0f7a4_32 ?_
  obtain ⟨x3, hx3, h⟩ := go_let_e h
  refine go_top hx3 ?_
  refine go_istore_n dJ6_bitCount_0f7a4_33 (by decide) rfl ?_
  show Go w 0 0 0 mtJ6_bitCount_0f7a4 34 [(0, .int x3)] [] (go_mk tx μ) (go_Z w Q)
  refine go_iload_n dJ6_bitCount_0f7a4_34 0 rfl ?_
  refine go_iload_n dJ6_bitCount_0f7a4_35 0 rfl ?_
  refine go_bipush (v := 8) dJ6_bitCount_0f7a4_36 (by decide) ?_
  refine go_iushr (v := (jushr x3 8)) dJ6_bitCount_0f7a4_38 rfl ?_
  refine go_iadd dJ6_bitCount_0f7a4_39 ?_
  obtain ⟨x4, hx4, h⟩ := go_let_e h
  refine go_top hx4 ?_
  refine go_istore_n dJ6_bitCount_0f7a4_40 (by decide) rfl ?_
  show Go w 0 0 0 mtJ6_bitCount_0f7a4 41 [(0, .int x4)] [] (go_mk tx μ) (go_Z w Q)
  refine go_iload_n dJ6_bitCount_0f7a4_41 0 rfl ?_
  refine go_iload_n dJ6_bitCount_0f7a4_42 0 rfl ?_
  refine go_bipush (v := 16) dJ6_bitCount_0f7a4_43 (by decide) ?_
  refine go_iushr (v := (jushr x4 16)) dJ6_bitCount_0f7a4_45 rfl ?_
  refine go_iadd dJ6_bitCount_0f7a4_46 ?_
  obtain ⟨x5, hx5, h⟩ := go_let_e h
  refine go_top hx5 ?_
  refine go_istore_n dJ6_bitCount_0f7a4_47 (by decide) rfl ?_
  show Go w 0 0 0 mtJ6_bitCount_0f7a4 48 [(0, .int x5)] [] (go_mk tx μ) (go_Z w Q)
  refine go_iload_n dJ6_bitCount_0f7a4_48 0 rfl ?_
  refine go_bipush (v := 63) dJ6_bitCount_0f7a4_49 (by decide) ?_
  refine go_iand dJ6_bitCount_0f7a4_51 ?_
  subst h
  exact go_iret dJ6_bitCount_0f7a4_52 rfl hK
theorem ctJ6_bitCount_0f7a4 {w : go_Wd} {tx : Nat} {μ : PM} {a0 : Int32} {r : Int32}  (h : fJ6_bitCount_0f7a4 a0 = r) : Ct w 0 0 0 mtJ6_bitCount_0f7a4 [.int a0] (go_mk tx μ) (fun r' M' => r' = some (.int r) ∧ M' = go_mk tx μ) :=
  go_entry rfl (by decide) (Nat.le_of_ble_eq_true rfl) (cmJ6_bitCount_0f7a4 w tx _ μ a0 _ h ⟨rfl, rfl⟩)
def jjX3_countPivots_105_31 (μ : PM) (a0 : Int32) (v2 : Int32) (v4 : Int32) (s0 : Int32) (s1 : Int32) : Option ((Int32 × Int32) ⊕ (Int32)) :=
  some (.inl ((s0 + s1), (v4 + 1)))
def lbX3_countPivots_31 (μ : PM) (a0 : Int32) (v2 : Int32) (v3 : Int32) (v4 : Int32) : Option ((Int32 × Int32) ⊕ (Int32)) :=
  (if ((1 : Int32) <<< (v2 &&& 31)) ≤ v4 then some (.inr (v3)) else (if (fX11_hasBit v4 a0) = 0 then (fX3_reachesQuota μ v4).bind fun q2 => (if q2 = 0 then (fX3_reachesQuota μ (v4 ||| ((1 : Int32) <<< (a0 &&& 31)))).bind fun q3 => (if q3 = 0 then some (.inl (v3, (v4 + 1))) else go_let ((fJ6_bitCount_0f7a4 v4)) fun x4 => (if v2 ≤ x4 then jjX3_countPivots_105_31 μ a0 v2 v4 v3 0 else go_chk x4 6 <| go_chk ((v2 - 1) - x4) 6 <| jjX3_countPivots_105_31 μ a0 v2 v4 v3 (((go_fc x4) * (go_fc ((v2 - 1) - x4)))))) else some (.inl (v3, (v4 + 1)))) else some (.inl (v3, (v4 + 1)))))
def fX3_countPivots (μ : PM) (a0 : Int32) : Option (Int32) :=
  go_let ((jmin (μ.1 12 6) 5)) fun x1 => (if a0 < 0 then some (0) else (if a0 < x1 then ((lp (fun s => lbX3_countPivots_31 μ a0 x1 s.1 s.2) go_fuel (0, 0)).bind fun ρ7 => some ρ7) else some (0)))
def ggX3_countPivots_31 (w : go_Wd) (tx : Nat) (Q : Option Value → go_M → Prop) (μ : PM) (a0 : Int32) (v2 : Int32) (s : Int32 × Int32) : Prop := Go w 3 0 0 mtX3_countPivots 31 [(0, .ref 398), (1, .int a0), (2, .int v2), (3, .int s.1), (4, .int s.2)] [] (go_mk tx μ) (go_Z w Q)
def eeX3_countPivots_31 (w : go_Wd) (tx : Nat) (Q : Option Value → go_M → Prop) (μ : PM) (a0 : Int32) (v2 : Int32) (y : Int32) : Prop := Q (some (.int y)) (go_mk tx μ)
set_option maxRecDepth 20000 in
set_option maxHeartbeats 4000000 in
theorem jqX3_countPivots_105_31 (w : go_Wd) (tx : Nat) (Q : Option Value → go_M → Prop) (μ : PM) (a0 : Int32) (v2 : Int32) (v4 : Int32)  (s0 : Int32) (s1 : Int32)  (out : (Int32 × Int32) ⊕ (Int32)) (h : jjX3_countPivots_105_31 μ a0 v2 v4 s0 s1 = some out) (hK : go_out (ggX3_countPivots_31 w tx Q μ a0 v2) (eeX3_countPivots_31 w tx Q μ a0 v2) out) : Go w 3 0 0 mtX3_countPivots 105 [(0, .ref 398), (1, .int a0), (2, .int v2), (4, .int v4)] [.int s1, .int s0] (go_mk tx μ) (go_Z w Q) := by
  unfold jjX3_countPivots_105_31 at h
  refine go_iadd dX3_countPivots_105 ?_
  refine go_istore_n dX3_countPivots_106 (by decide) rfl ?_
  show Go w 3 0 0 mtX3_countPivots 107 [(3, .int (s0 + s1)), (0, .ref 398), (1, .int a0), (2, .int v2), (4, .int v4)] [] (go_mk tx μ) (go_Z w Q)
  refine go_iinc (v := (v4 + 1)) dX3_countPivots_107 4 rfl rfl (by decide) rfl ?_
  show Go w 3 0 0 mtX3_countPivots 110 [(4, .int (v4 + 1)), (3, .int (s0 + s1)), (0, .ref 398), (1, .int a0), (2, .int v2)] [] (go_mk tx μ) (go_Z w Q)
  refine go_goto 31 dX3_countPivots_110 (by decide) ?_
  cases h
  have hK : Go w 3 0 0 mtX3_countPivots 31 [(0, .ref 398), (1, .int a0), (2, .int v2), (3, .int (s0 + s1)), (4, .int (v4 + 1))] [] (go_mk tx μ) (go_Z w Q) := hK
  exact go_pick [2, 3, 4, 1, 0] rfl hK
set_option maxRecDepth 20000 in
set_option maxHeartbeats 4000000 in
theorem lqX3_countPivots_31 (w : go_Wd) (tx : Nat) (Q : Option Value → go_M → Prop) (μ : PM) (a0 : Int32) (v2 : Int32)  (v3 : Int32) (v4 : Int32) (out : (Int32 × Int32) ⊕ (Int32)) (h : lbX3_countPivots_31 μ a0 v2 v3 v4 = some out) (hK : go_out (ggX3_countPivots_31 w tx Q μ a0 v2) (eeX3_countPivots_31 w tx Q μ a0 v2) out) : ggX3_countPivots_31 w tx Q μ a0 v2 (v3, v4) := by
  unfold lbX3_countPivots_31 at h
  show Go w 3 0 0 mtX3_countPivots 31 [(0, .ref 398), (1, .int a0), (2, .int v2), (3, .int v3), (4, .int v4)] [] (go_mk tx μ) (go_Z w Q)
  refine go_iload dX3_countPivots_31 4 rfl ?_
  refine go_iconst (v := 1) dX3_countPivots_33 (by decide) ?_
  refine go_iload_n dX3_countPivots_34 2 rfl ?_
  refine go_ishl dX3_countPivots_35 ?_
  refine go_icmp_ge 113 dX3_countPivots_36 (by decide) (fun hc => ?_) (fun hc => ?_)
  · have h := go_ifp hc h
    refine go_iload_n dX3_countPivots_113 3 rfl ?_
    cases h
    exact go_iret dX3_countPivots_114 rfl hK
  · have h := go_ifn hc h
    refine go_iload dX3_countPivots_39 4 rfl ?_
    refine go_iload_n dX3_countPivots_41 1 rfl ?_
    refine pp_callSN (as := [.int v4, .int a0]) (st := []) (rv := (some (.int (fX11_hasBit v4 a0)))) (μ1 := μ) (st1 := [.int (fX11_hasBit v4 a0)]) dX3_countPivots_42 ll_X3_40 (ctX11_hasBit  rfl) rfl (Nat.le_of_ble_eq_true rfl) (Nat.le_of_ble_eq_true rfl) (go_Z_up w _) rfl rfl ?_
    refine go_if_ne 107 dX3_countPivots_45 (by decide) (fun hc => ?_) (fun hc => ?_)
    · have h := go_ifn hc h
      refine go_iinc (v := (v4 + 1)) dX3_countPivots_107 4 rfl rfl (by decide) rfl ?_
      show Go w 3 0 0 mtX3_countPivots 110 [(4, .int (v4 + 1)), (0, .ref 398), (1, .int a0), (2, .int v2), (3, .int v3)] [] (go_mk tx μ) (go_Z w Q)
      refine go_goto 31 dX3_countPivots_110 (by decide) ?_
      cases h
      have hK : Go w 3 0 0 mtX3_countPivots 31 [(0, .ref 398), (1, .int a0), (2, .int v2), (3, .int v3), (4, .int (v4 + 1))] [] (go_mk tx μ) (go_Z w Q) := hK
      exact go_pick [1, 2, 3, 4, 0] rfl hK
    · have h := go_ifp hc h
      refine go_aload_n dX3_countPivots_48 0 rfl ?_
      refine go_iload dX3_countPivots_49 4 rfl ?_
      obtain ⟨q2, hq2, h⟩ := go_bind h
      refine pp_callV (as := [.int v4]) (st := []) (rv := (some (.int q2))) (μ1 := μ) (st1 := [.int q2]) dX3_countPivots_51 ll_X3_44 sh_398 (by decide) rfl (ctX3_reachesQuota  hq2) rfl (Nat.le_of_ble_eq_true rfl) (Nat.le_of_ble_eq_true rfl) (go_Z_up w _) rfl rfl ?_
      refine go_if_ne 107 dX3_countPivots_54 (by decide) (fun hc => ?_) (fun hc => ?_)
      · have h := go_ifn hc h
        refine go_iinc (v := (v4 + 1)) dX3_countPivots_107 4 rfl rfl (by decide) rfl ?_
        show Go w 3 0 0 mtX3_countPivots 110 [(4, .int (v4 + 1)), (0, .ref 398), (1, .int a0), (2, .int v2), (3, .int v3)] [] (go_mk tx μ) (go_Z w Q)
        refine go_goto 31 dX3_countPivots_110 (by decide) ?_
        cases h
        have hK : Go w 3 0 0 mtX3_countPivots 31 [(0, .ref 398), (1, .int a0), (2, .int v2), (3, .int v3), (4, .int (v4 + 1))] [] (go_mk tx μ) (go_Z w Q) := hK
        exact go_pick [1, 2, 3, 4, 0] rfl hK
      · have h := go_ifp hc h
        refine go_aload_n dX3_countPivots_57 0 rfl ?_
        refine go_iload dX3_countPivots_58 4 rfl ?_
        refine go_iconst (v := 1) dX3_countPivots_60 (by decide) ?_
        refine go_iload_n dX3_countPivots_61 1 rfl ?_
        refine go_ishl dX3_countPivots_62 ?_
        refine go_ior dX3_countPivots_63 ?_
        obtain ⟨q3, hq3, h⟩ := go_bind h
        refine pp_callV (as := [.int (v4 ||| ((1 : Int32) <<< (a0 &&& 31)))]) (st := []) (rv := (some (.int q3))) (μ1 := μ) (st1 := [.int q3]) dX3_countPivots_64 ll_X3_44 sh_398 (by decide) rfl (ctX3_reachesQuota  hq3) rfl (Nat.le_of_ble_eq_true rfl) (Nat.le_of_ble_eq_true rfl) (go_Z_up w _) rfl rfl ?_
        refine go_if_eq 107 dX3_countPivots_67 (by decide) (fun hc => ?_) (fun hc => ?_)
        · have h := go_ifp hc h
          refine go_iinc (v := (v4 + 1)) dX3_countPivots_107 4 rfl rfl (by decide) rfl ?_
          show Go w 3 0 0 mtX3_countPivots 110 [(4, .int (v4 + 1)), (0, .ref 398), (1, .int a0), (2, .int v2), (3, .int v3)] [] (go_mk tx μ) (go_Z w Q)
          refine go_goto 31 dX3_countPivots_110 (by decide) ?_
          cases h
          have hK : Go w 3 0 0 mtX3_countPivots 31 [(0, .ref 398), (1, .int a0), (2, .int v2), (3, .int v3), (4, .int (v4 + 1))] [] (go_mk tx μ) (go_Z w Q) := hK
          exact go_pick [1, 2, 3, 4, 0] rfl hK
        · have h := go_ifn hc h
          refine go_iload dX3_countPivots_70 4 rfl ?_
          refine pp_callS (as := [.int v4]) (st := []) (rv := (some (.int (fJ6_bitCount_0f7a4 v4)))) (μ1 := μ) (st1 := [.int (fJ6_bitCount_0f7a4 v4)]) dX3_countPivots_72 ll_X3_48 (ctJ6_bitCount_0f7a4  rfl) rfl (Nat.le_of_ble_eq_true rfl) (Nat.le_of_ble_eq_true rfl) (go_Z_up w _) rfl rfl ?_
          obtain ⟨x4, hx4, h⟩ := go_let_e h
          refine go_top hx4 ?_
          refine go_istore dX3_countPivots_75 (by decide) rfl ?_
          show Go w 3 0 0 mtX3_countPivots 77 [(5, .int x4), (0, .ref 398), (1, .int a0), (2, .int v2), (3, .int v3), (4, .int v4)] [] (go_mk tx μ) (go_Z w Q)
          refine go_iload_n dX3_countPivots_77 4 rfl ?_
          refine go_iload dX3_countPivots_78 0 rfl ?_
          refine go_iload_n dX3_countPivots_80 3 rfl ?_
          refine go_icmp_ge 104 dX3_countPivots_81 (by decide) (fun hc => ?_) (fun hc => ?_)
          · have h := go_ifp hc h
            refine go_iconst (v := 0) dX3_countPivots_104 (by decide) ?_
            refine go_pick [1, 2, 3, 5] rfl ?_
            exact jqX3_countPivots_105_31 w tx Q μ a0 v2 v4  v3 0  _ h hK
          · have h := go_ifn hc h
            refine go_getFN dX3_countPivots_84 fn_X3_53 ?_
            refine go_iload dX3_countPivots_87 0 rfl ?_
            obtain ⟨hz5, h⟩ := go_chk_e h
            refine go_ldF (x := (go_fc x4)) dX3_countPivots_89 hz5 rfl ?_
            refine go_getFN dX3_countPivots_90 fn_X3_53 ?_
            refine go_iload_n dX3_countPivots_93 3 rfl ?_
            refine go_iconst (v := 1) dX3_countPivots_94 (by decide) ?_
            refine go_isub dX3_countPivots_95 ?_
            refine go_iload dX3_countPivots_96 0 rfl ?_
            refine go_isub dX3_countPivots_98 ?_
            obtain ⟨hz6, h⟩ := go_chk_e h
            refine go_ldF (x := (go_fc ((v2 - 1) - x4))) dX3_countPivots_99 hz6 rfl ?_
            refine go_imul dX3_countPivots_100 ?_
            refine go_goto 105 dX3_countPivots_101 (by decide) ?_
            refine go_pick [1, 2, 3, 5] rfl ?_
            exact jqX3_countPivots_105_31 w tx Q μ a0 v2 v4  v3 (((go_fc x4) * (go_fc ((v2 - 1) - x4))))  _ h hK
set_option maxRecDepth 20000 in
set_option maxHeartbeats 4000000 in
theorem cmX3_countPivots (w : go_Wd) (tx : Nat) (Q : Option Value → go_M → Prop) (μ : PM) (a0 : Int32) (out : Int32) (h : fX3_countPivots μ a0 = some out) (hK : Q (some (.int out)) (go_mk tx μ)) : Go w 3 0 0 mtX3_countPivots 0 [(0, .ref 398), (1, .int a0)] [] (go_mk tx μ) (go_Z w Q) := by
  unfold fX3_countPivots at h
  refine go_aload_n dX3_countPivots_0 0 rfl ?_
  refine pp_getR dX3_countPivots_1 ff_X3_9 (Or.inl ⟨_, rfl⟩) sh_398 rf_398_0 ?_
  refine pp_getR dX3_countPivots_4 ff_X3_25 (Or.inl ⟨_, rfl⟩) go_isV_1.1 rf_1_10 ?_
  refine pp_getI dX3_countPivots_7 ff_X3_29 (by decide) go_isW_12.1 ?_
  refine go_iconst (v := 5) dX3_countPivots_10 (by decide) ?_
  refine go_mmin dX3_countPivots_11 mm_X3_34 (by decide) (Nat.le_of_ble_eq_true rfl) ?_
  refine go_top (x := (jmin (μ.1 12 6) 5)) rfl ?_
  obtain ⟨x1, hx1, h⟩ := go_let_e h
  refine go_top hx1 ?_
  refine go_istore_n dX3_countPivots_14 (by decide) rfl ?_
  show Go w 3 0 0 mtX3_countPivots 15 [(2, .int x1), (0, .ref 398), (1, .int a0)] [] (go_mk tx μ) (go_Z w Q)
  refine go_iconst (v := 0) dX3_countPivots_15 (by decide) ?_
  refine go_istore_n dX3_countPivots_16 (by decide) rfl ?_
  show Go w 3 0 0 mtX3_countPivots 17 [(3, .int 0), (2, .int x1), (0, .ref 398), (1, .int a0)] [] (go_mk tx μ) (go_Z w Q)
  refine go_iload_n dX3_countPivots_17 3 rfl ?_
  refine go_if_lt 26 dX3_countPivots_18 (by decide) (fun hc => ?_) (fun hc => ?_)
  · have h := go_ifp hc h
    refine go_iload_n dX3_countPivots_26 0 rfl ?_
    cases h
    exact go_iret dX3_countPivots_27 rfl hK
  · have h := go_ifn hc h
    refine go_iload_n dX3_countPivots_21 3 rfl ?_
    refine go_iload_n dX3_countPivots_22 1 rfl ?_
    refine go_icmp_lt 28 dX3_countPivots_23 (by decide) (fun hc => ?_) (fun hc => ?_)
    · have h := go_ifp hc h
      refine go_iconst (v := 0) dX3_countPivots_28 (by decide) ?_
      refine go_istore dX3_countPivots_29 (by decide) rfl ?_
      show Go w 3 0 0 mtX3_countPivots 31 [(4, .int 0), (3, .int 0), (2, .int x1), (0, .ref 398), (1, .int a0)] [] (go_mk tx μ) (go_Z w Q)
      obtain ⟨ρ7, hρ7, h⟩ := go_bind h
      refine go_pick [3, 4, 2, 1, 0] rfl ?_
      refine go_lp (G := ggX3_countPivots_31 w tx Q μ a0 x1) (E := eeX3_countPivots_31 w tx Q μ a0 x1) (fun s out h hK => lqX3_countPivots_31 w tx Q μ a0 x1  s.1 s.2 out h hK) go_fuel (0, 0) ρ7 hρ7 ?_
      cases h
      exact hK
    · have h := go_ifn hc h
      refine go_iload_n dX3_countPivots_26 0 rfl ?_
      cases h
      exact go_iret dX3_countPivots_27 rfl hK
theorem ctX3_countPivots {w : go_Wd} {tx : Nat} {μ : PM} {a0 : Int32} {r : Int32}  (h : fX3_countPivots μ a0 = some r) : Ct w 3 0 0 mtX3_countPivots [.ref 398, .int a0] (go_mk tx μ) (fun r' M' => r' = some (.int r) ∧ M' = go_mk tx μ) :=
  go_entry rfl (by decide) (Nat.le_of_ble_eq_true rfl) (cmX3_countPivots w tx _ μ a0 _ h ⟨rfl, rfl⟩)
def fX11_couldLike (a0 : Int32) (a1 : Int32) (a2 : Int32) : Int32 :=
  (if a0 < 0 then 0 else (if 5 ≤ a0 then 0 else (if a1 < 0 then 0 else (if 6 ≤ a1 then 0 else (if a2 < 0 then 0 else (if 99 < a2 then 0 else 1))))))
set_option maxRecDepth 20000 in
set_option maxHeartbeats 4000000 in
theorem cmX11_couldLike (w : go_Wd) (tx : Nat) (Q : Option Value → go_M → Prop) (μ : PM) (a0 : Int32) (a1 : Int32) (a2 : Int32) (out : Int32) (h : fX11_couldLike a0 a1 a2 = out) (hK : Q (some (.int out)) (go_mk tx μ)) : Go w 0 0 0 mtX11_couldLike 0 [(0, .int a0), (1, .int a1), (2, .int a2)] [] (go_mk tx μ) (go_Z w Q) := by
  unfold fX11_couldLike at h
  refine go_iload_n dX11_couldLike_0 0 rfl ?_
  refine go_if_lt 33 dX11_couldLike_1 (by decide) (fun hc => ?_) (fun hc => ?_)
  · have h := go_ifp hc h
    refine go_iconst (v := 0) dX11_couldLike_33 (by decide) ?_
    subst h
    exact go_zret dX11_couldLike_34 rfl (Or.inl rfl) hK
  · have h := go_ifn hc h
    refine go_iload_n dX11_couldLike_4 0 rfl ?_
    refine go_iconst (v := 5) dX11_couldLike_5 (by decide) ?_
    refine go_icmp_ge 33 dX11_couldLike_6 (by decide) (fun hc => ?_) (fun hc => ?_)
    · have h := go_ifp hc h
      refine go_iconst (v := 0) dX11_couldLike_33 (by decide) ?_
      subst h
      exact go_zret dX11_couldLike_34 rfl (Or.inl rfl) hK
    · have h := go_ifn hc h
      refine go_iload_n dX11_couldLike_9 1 rfl ?_
      refine go_if_lt 33 dX11_couldLike_10 (by decide) (fun hc => ?_) (fun hc => ?_)
      · have h := go_ifp hc h
        refine go_iconst (v := 0) dX11_couldLike_33 (by decide) ?_
        subst h
        exact go_zret dX11_couldLike_34 rfl (Or.inl rfl) hK
      · have h := go_ifn hc h
        refine go_iload_n dX11_couldLike_13 1 rfl ?_
        refine go_bipush (v := 6) dX11_couldLike_14 (by decide) ?_
        refine go_icmp_ge 33 dX11_couldLike_16 (by decide) (fun hc => ?_) (fun hc => ?_)
        · have h := go_ifp hc h
          refine go_iconst (v := 0) dX11_couldLike_33 (by decide) ?_
          subst h
          exact go_zret dX11_couldLike_34 rfl (Or.inl rfl) hK
        · have h := go_ifn hc h
          refine go_iload_n dX11_couldLike_19 2 rfl ?_
          refine go_if_lt 33 dX11_couldLike_20 (by decide) (fun hc => ?_) (fun hc => ?_)
          · have h := go_ifp hc h
            refine go_iconst (v := 0) dX11_couldLike_33 (by decide) ?_
            subst h
            exact go_zret dX11_couldLike_34 rfl (Or.inl rfl) hK
          · have h := go_ifn hc h
            refine go_iload_n dX11_couldLike_23 2 rfl ?_
            refine go_bipush (v := 99) dX11_couldLike_24 (by decide) ?_
            refine go_icmp_gt 33 dX11_couldLike_26 (by decide) (fun hc => ?_) (fun hc => ?_)
            · have h := go_ifp hc h
              refine go_iconst (v := 0) dX11_couldLike_33 (by decide) ?_
              subst h
              exact go_zret dX11_couldLike_34 rfl (Or.inl rfl) hK
            · have h := go_ifn hc h
              refine go_iconst (v := 1) dX11_couldLike_29 (by decide) ?_
              refine go_goto 34 dX11_couldLike_30 (by decide) ?_
              subst h
              exact go_zret dX11_couldLike_34 rfl (Or.inr rfl) hK
theorem ctX11_couldLike {w : go_Wd} {tx : Nat} {μ : PM} {a0 : Int32} {a1 : Int32} {a2 : Int32} {r : Int32}  (h : fX11_couldLike a0 a1 a2 = r) : Ct w 0 0 0 mtX11_couldLike [.int a0, .int a1, .int a2] (go_mk tx μ) (fun r' M' => r' = some (.int r) ∧ M' = go_mk tx μ) :=
  go_entry rfl (by decide) (Nat.le_of_ble_eq_true rfl) (cmX11_couldLike w tx _ μ a0 a1 a2 _ h ⟨rfl, rfl⟩)
theorem bzX11_couldLike {a0 : Int32} {a1 : Int32} {a2 : Int32} {r : Int32} (h : fX11_couldLike a0 a1 a2 = r) : r = 0 ∨ r = 1 := by
  subst h
  show go_bi _
  unfold fX11_couldLike
  repeat' first | exact bi_0 | exact bi_1 | with_reducible apply bi_ite
def fX4_wantOf (μ : PM) (a0 : Int32) (a1 : Int32) : Option (Int32) :=
  (if (fX11_couldLike a0 a1 0) = 0 then some (0) else go_chk ((a0 * 6) + a1) 30 <| some ((μ.1 6 (((a0 * 6) + a1) : Int32).toNatClampNeg)))
set_option maxRecDepth 20000 in
set_option maxHeartbeats 4000000 in
theorem cmX4_wantOf (w : go_Wd) (tx : Nat) (Q : Option Value → go_M → Prop) (μ : PM) (a0 : Int32) (a1 : Int32) (out : Int32) (h : fX4_wantOf μ a0 a1 = some out) (hK : Q (some (.int out)) (go_mk tx μ)) : Go w 1 0 0 mtX4_wantOf 0 [(0, .ref 387), (1, .int a0), (2, .int a1)] [] (go_mk tx μ) (go_Z w Q) := by
  unfold fX4_wantOf at h
  refine go_iload_n dX4_wantOf_0 1 rfl ?_
  refine go_iload_n dX4_wantOf_1 2 rfl ?_
  refine go_iconst (v := 0) dX4_wantOf_2 (by decide) ?_
  refine pp_callSN (as := [.int a0, .int a1, .int 0]) (st := []) (rv := (some (.int (fX11_couldLike a0 a1 0)))) (μ1 := μ) (st1 := [.int (fX11_couldLike a0 a1 0)]) dX4_wantOf_3 ll_X4_41 (ctX11_couldLike  rfl) rfl (Nat.le_of_ble_eq_true rfl) (Nat.le_of_ble_eq_true rfl) (go_Z_up w _) rfl rfl ?_
  refine go_if_eq 26 dX4_wantOf_6 (by decide) (fun hc => ?_) (fun hc => ?_)
  · have h := go_ifp hc h
    refine go_iconst (v := 0) dX4_wantOf_26 (by decide) ?_
    cases h
    exact go_iret dX4_wantOf_27 rfl hK
  · have h := go_ifn hc h
    refine go_aload_n dX4_wantOf_9 0 rfl ?_
    refine pp_getR dX4_wantOf_10 ff_X4_30 (Or.inl ⟨_, rfl⟩) sh_387 rf_387_0 ?_
    refine pp_getR dX4_wantOf_13 ff_X4_45 (Or.inr ⟨_, rfl⟩) go_isV_1.1 rf_1_4 ?_
    refine go_iload_n dX4_wantOf_16 1 rfl ?_
    refine go_bipush (v := 6) dX4_wantOf_17 (by decide) ?_
    refine go_imul dX4_wantOf_19 ?_
    refine go_iload_n dX4_wantOf_20 2 rfl ?_
    refine go_iadd dX4_wantOf_21 ?_
    obtain ⟨hz1, h⟩ := go_chk_e h
    refine pp_ild dX4_wantOf_22 sh_6 hz1 ?_
    refine go_goto 27 dX4_wantOf_23 (by decide) ?_
    cases h
    exact go_iret dX4_wantOf_27 rfl hK
theorem ctX4_wantOf {w : go_Wd} {tx : Nat} {μ : PM} {a0 : Int32} {a1 : Int32} {r : Int32}  (h : fX4_wantOf μ a0 a1 = some r) : Ct w 1 0 0 mtX4_wantOf [.ref 387, .int a0, .int a1] (go_mk tx μ) (fun r' M' => r' = some (.int r) ∧ M' = go_mk tx μ) :=
  go_entry rfl (by decide) (Nat.le_of_ble_eq_true rfl) (cmX4_wantOf w tx _ μ a0 a1 _ h ⟨rfl, rfl⟩)
def fX4_isWanted (μ : PM) (a0 : Int32) (a1 : Int32) : Option (Int32) :=
  (fX4_wantOf μ a0 a1).bind fun q1 => (if q1 ≤ 0 then some (0) else some (1))
set_option maxRecDepth 20000 in
set_option maxHeartbeats 4000000 in
theorem cmX4_isWanted (w : go_Wd) (tx : Nat) (Q : Option Value → go_M → Prop) (μ : PM) (a0 : Int32) (a1 : Int32) (out : Int32) (h : fX4_isWanted μ a0 a1 = some out) (hK : Q (some (.int out)) (go_mk tx μ)) : Go w 2 0 0 mtX4_isWanted 0 [(0, .ref 387), (1, .int a0), (2, .int a1)] [] (go_mk tx μ) (go_Z w Q) := by
  unfold fX4_isWanted at h
  refine go_aload_n dX4_isWanted_0 0 rfl ?_
  refine go_iload_n dX4_isWanted_1 1 rfl ?_
  refine go_iload_n dX4_isWanted_2 2 rfl ?_
  obtain ⟨q1, hq1, h⟩ := go_bind h
  refine pp_callV (as := [.int a0, .int a1]) (st := []) (rv := (some (.int q1))) (μ1 := μ) (st1 := [.int q1]) dX4_isWanted_3 ll_X4_34 sh_387 (by decide) rfl (ctX4_wantOf  hq1) rfl (Nat.le_of_ble_eq_true rfl) (Nat.le_of_ble_eq_true rfl) (go_Z_up w _) rfl rfl ?_
  refine go_if_le 13 dX4_isWanted_6 (by decide) (fun hc => ?_) (fun hc => ?_)
  · have h := go_ifp hc h
    refine go_iconst (v := 0) dX4_isWanted_13 (by decide) ?_
    cases h
    exact go_zret dX4_isWanted_14 rfl (Or.inl rfl) hK
  · have h := go_ifn hc h
    refine go_iconst (v := 1) dX4_isWanted_9 (by decide) ?_
    refine go_goto 14 dX4_isWanted_10 (by decide) ?_
    cases h
    exact go_zret dX4_isWanted_14 rfl (Or.inr rfl) hK
theorem ctX4_isWanted {w : go_Wd} {tx : Nat} {μ : PM} {a0 : Int32} {a1 : Int32} {r : Int32}  (h : fX4_isWanted μ a0 a1 = some r) : Ct w 2 0 0 mtX4_isWanted [.ref 387, .int a0, .int a1] (go_mk tx μ) (fun r' M' => r' = some (.int r) ∧ M' = go_mk tx μ) :=
  go_entry rfl (by decide) (Nat.le_of_ble_eq_true rfl) (cmX4_isWanted w tx _ μ a0 a1 _ h ⟨rfl, rfl⟩)
def fX4_favourOf (μ : PM) (a0 : Int32) (a1 : Int32) : Option (Int32) :=
  (if (fX11_couldLike a1 a0 0) = 0 then some (0) else go_chk ((a0 * 5) + a1) 30 <| some ((μ.1 7 (((a0 * 5) + a1) : Int32).toNatClampNeg)))
set_option maxRecDepth 20000 in
set_option maxHeartbeats 4000000 in
theorem cmX4_favourOf (w : go_Wd) (tx : Nat) (Q : Option Value → go_M → Prop) (μ : PM) (a0 : Int32) (a1 : Int32) (out : Int32) (h : fX4_favourOf μ a0 a1 = some out) (hK : Q (some (.int out)) (go_mk tx μ)) : Go w 1 0 0 mtX4_favourOf 0 [(0, .ref 387), (1, .int a0), (2, .int a1)] [] (go_mk tx μ) (go_Z w Q) := by
  unfold fX4_favourOf at h
  refine go_iload_n dX4_favourOf_0 2 rfl ?_
  refine go_iload_n dX4_favourOf_1 1 rfl ?_
  refine go_iconst (v := 0) dX4_favourOf_2 (by decide) ?_
  refine pp_callSN (as := [.int a1, .int a0, .int 0]) (st := []) (rv := (some (.int (fX11_couldLike a1 a0 0)))) (μ1 := μ) (st1 := [.int (fX11_couldLike a1 a0 0)]) dX4_favourOf_3 ll_X4_41 (ctX11_couldLike  rfl) rfl (Nat.le_of_ble_eq_true rfl) (Nat.le_of_ble_eq_true rfl) (go_Z_up w _) rfl rfl ?_
  refine go_if_eq 25 dX4_favourOf_6 (by decide) (fun hc => ?_) (fun hc => ?_)
  · have h := go_ifp hc h
    refine go_iconst (v := 0) dX4_favourOf_25 (by decide) ?_
    cases h
    exact go_iret dX4_favourOf_26 rfl hK
  · have h := go_ifn hc h
    refine go_aload_n dX4_favourOf_9 0 rfl ?_
    refine pp_getR dX4_favourOf_10 ff_X4_30 (Or.inl ⟨_, rfl⟩) sh_387 rf_387_0 ?_
    refine pp_getR dX4_favourOf_13 ff_X4_50 (Or.inr ⟨_, rfl⟩) go_isV_1.1 rf_1_5 ?_
    refine go_iload_n dX4_favourOf_16 1 rfl ?_
    refine go_iconst (v := 5) dX4_favourOf_17 (by decide) ?_
    refine go_imul dX4_favourOf_18 ?_
    refine go_iload_n dX4_favourOf_19 2 rfl ?_
    refine go_iadd dX4_favourOf_20 ?_
    obtain ⟨hz1, h⟩ := go_chk_e h
    refine pp_ild dX4_favourOf_21 sh_7 hz1 ?_
    refine go_goto 26 dX4_favourOf_22 (by decide) ?_
    cases h
    exact go_iret dX4_favourOf_26 rfl hK
theorem ctX4_favourOf {w : go_Wd} {tx : Nat} {μ : PM} {a0 : Int32} {a1 : Int32} {r : Int32}  (h : fX4_favourOf μ a0 a1 = some r) : Ct w 1 0 0 mtX4_favourOf [.ref 387, .int a0, .int a1] (go_mk tx μ) (fun r' M' => r' = some (.int r) ∧ M' = go_mk tx μ) :=
  go_entry rfl (by decide) (Nat.le_of_ble_eq_true rfl) (cmX4_favourOf w tx _ μ a0 a1 _ h ⟨rfl, rfl⟩)
def jjX4_likesMore_50 (μ : PM) (a0 : Int32) (a1 : Int32) (a2 : Int32) (a3 : Int32) (v5 : Int32) (s0 : Int32) : Option (Int32) :=
  (if s0 < v5 then some (1) else (if v5 = s0 then (if a3 ≤ a2 then some (0) else some (1)) else some (0)))
def jjX4_likesMore_27 (μ : PM) (a0 : Int32) (a1 : Int32) (a2 : Int32) (a3 : Int32)  (s0 : Int32) : Option (Int32) :=
  (if a0 = 0 then (fX4_favourOf μ a1 a3).bind fun q2 => jjX4_likesMore_50 μ a0 a1 a2 a3 s0 q2 else (fX4_wantOf μ a1 a3).bind fun q3 => jjX4_likesMore_50 μ a0 a1 a2 a3 s0 q3)
def fX4_likesMore (μ : PM) (a0 : Int32) (a1 : Int32) (a2 : Int32) (a3 : Int32) : Option (Int32) :=
  (if a3 = (-1) then some (1) else (if a0 = 0 then (fX4_favourOf μ a1 a2).bind fun q1 => jjX4_likesMore_27 μ a0 a1 a2 a3 q1 else (fX4_wantOf μ a1 a2).bind fun q4 => jjX4_likesMore_27 μ a0 a1 a2 a3 q4))
set_option maxRecDepth 20000 in
set_option maxHeartbeats 4000000 in
theorem jqX4_likesMore_50 (w : go_Wd) (tx : Nat) (Q : Option Value → go_M → Prop) (μ : PM) (a0 : Int32) (a1 : Int32) (a2 : Int32) (a3 : Int32) (v5 : Int32)  (s0 : Int32)  (out : Int32) (h : jjX4_likesMore_50 μ a0 a1 a2 a3 v5 s0 = some out) (hK : Q (some (.int out)) (go_mk tx μ)) : Go w 2 0 0 mtX4_likesMore 50 [(3, .int a2), (4, .int a3), (5, .int v5)] [.int s0] (go_mk tx μ) (go_Z w Q) := by
  unfold jjX4_likesMore_50 at h
  refine go_istore dX4_likesMore_50 (by decide) rfl ?_
  show Go w 2 0 0 mtX4_likesMore 52 [(6, .int s0), (3, .int a2), (4, .int a3), (5, .int v5)] [] (go_mk tx μ) (go_Z w Q)
  refine go_iload dX4_likesMore_52 3 rfl ?_
  refine go_iload dX4_likesMore_54 0 rfl ?_
  refine go_icmp_gt 72 dX4_likesMore_56 (by decide) (fun hc => ?_) (fun hc => ?_)
  · have h := go_ifp hc h
    refine go_iconst (v := 1) dX4_likesMore_72 (by decide) ?_
    refine go_goto 77 dX4_likesMore_73 (by decide) ?_
    cases h
    exact go_zret dX4_likesMore_77 rfl (Or.inr rfl) hK
  · have h := go_ifn hc h
    refine go_iload dX4_likesMore_59 3 rfl ?_
    refine go_iload dX4_likesMore_61 0 rfl ?_
    refine go_icmp_ne 76 dX4_likesMore_63 (by decide) (fun hc => ?_) (fun hc => ?_)
    · have h := go_ifn hc h
      refine go_iconst (v := 0) dX4_likesMore_76 (by decide) ?_
      cases h
      exact go_zret dX4_likesMore_77 rfl (Or.inl rfl) hK
    · have h := go_ifp hc h
      refine go_iload_n dX4_likesMore_66 1 rfl ?_
      refine go_iload dX4_likesMore_67 2 rfl ?_
      refine go_icmp_ge 76 dX4_likesMore_69 (by decide) (fun hc => ?_) (fun hc => ?_)
      · have h := go_ifp hc h
        refine go_iconst (v := 0) dX4_likesMore_76 (by decide) ?_
        cases h
        exact go_zret dX4_likesMore_77 rfl (Or.inl rfl) hK
      · have h := go_ifn hc h
        refine go_iconst (v := 1) dX4_likesMore_72 (by decide) ?_
        refine go_goto 77 dX4_likesMore_73 (by decide) ?_
        cases h
        exact go_zret dX4_likesMore_77 rfl (Or.inr rfl) hK
set_option maxRecDepth 20000 in
set_option maxHeartbeats 4000000 in
theorem jqX4_likesMore_27 (w : go_Wd) (tx : Nat) (Q : Option Value → go_M → Prop) (μ : PM) (a0 : Int32) (a1 : Int32) (a2 : Int32) (a3 : Int32)   (s0 : Int32)  (out : Int32) (h : jjX4_likesMore_27 μ a0 a1 a2 a3  s0 = some out) (hK : Q (some (.int out)) (go_mk tx μ)) : Go w 2 0 0 mtX4_likesMore 27 [(0, .ref 387), (1, .int a0), (2, .int a1), (3, .int a2), (4, .int a3)] [.int s0] (go_mk tx μ) (go_Z w Q) := by
  unfold jjX4_likesMore_27 at h
  refine go_istore dX4_likesMore_27 (by decide) rfl ?_
  show Go w 2 0 0 mtX4_likesMore 29 [(5, .int s0), (0, .ref 387), (1, .int a0), (2, .int a1), (3, .int a2), (4, .int a3)] [] (go_mk tx μ) (go_Z w Q)
  refine go_iload_n dX4_likesMore_29 2 rfl ?_
  refine go_if_eq 43 dX4_likesMore_30 (by decide) (fun hc => ?_) (fun hc => ?_)
  · have h := go_ifp hc h
    refine go_aload_n dX4_likesMore_43 1 rfl ?_
    refine go_iload_n dX4_likesMore_44 3 rfl ?_
    refine go_iload dX4_likesMore_45 5 rfl ?_
    obtain ⟨q2, hq2, h⟩ := go_bind h
    refine pp_callV (as := [.int a1, .int a3]) (st := []) (rv := (some (.int q2))) (μ1 := μ) (st1 := [.int q2]) dX4_likesMore_47 ll_X4_38 sh_387 (by decide) rfl (ctX4_favourOf  hq2) rfl (Nat.le_of_ble_eq_true rfl) (Nat.le_of_ble_eq_true rfl) (go_Z_up w _) rfl rfl ?_
    refine go_pick [4, 5, 0] rfl ?_
    exact jqX4_likesMore_50 w tx Q μ a0 a1 a2 a3 s0  q2  _ h hK
  · have h := go_ifn hc h
    refine go_aload_n dX4_likesMore_33 1 rfl ?_
    refine go_iload_n dX4_likesMore_34 3 rfl ?_
    refine go_iload dX4_likesMore_35 5 rfl ?_
    obtain ⟨q3, hq3, h⟩ := go_bind h
    refine pp_callV (as := [.int a1, .int a3]) (st := []) (rv := (some (.int q3))) (μ1 := μ) (st1 := [.int q3]) dX4_likesMore_37 ll_X4_34 sh_387 (by decide) rfl (ctX4_wantOf  hq3) rfl (Nat.le_of_ble_eq_true rfl) (Nat.le_of_ble_eq_true rfl) (go_Z_up w _) rfl rfl ?_
    refine go_goto 50 dX4_likesMore_40 (by decide) ?_
    refine go_pick [4, 5, 0] rfl ?_
    exact jqX4_likesMore_50 w tx Q μ a0 a1 a2 a3 s0  q3  _ h hK
set_option maxRecDepth 20000 in
set_option maxHeartbeats 4000000 in
theorem cmX4_likesMore (w : go_Wd) (tx : Nat) (Q : Option Value → go_M → Prop) (μ : PM) (a0 : Int32) (a1 : Int32) (a2 : Int32) (a3 : Int32) (out : Int32) (h : fX4_likesMore μ a0 a1 a2 a3 = some out) (hK : Q (some (.int out)) (go_mk tx μ)) : Go w 2 0 0 mtX4_likesMore 0 [(0, .ref 387), (1, .int a0), (2, .int a1), (3, .int a2), (4, .int a3)] [] (go_mk tx μ) (go_Z w Q) := by
  unfold fX4_likesMore at h
  refine go_iload dX4_likesMore_0 4 rfl ?_
  refine go_iconst (v := (-1)) dX4_likesMore_2 (by decide) ?_
  refine go_icmp_ne 8 dX4_likesMore_3 (by decide) (fun hc => ?_) (fun hc => ?_)
  · have h := go_ifn hc h
    refine go_iload_n dX4_likesMore_8 1 rfl ?_
    refine go_if_eq 21 dX4_likesMore_9 (by decide) (fun hc => ?_) (fun hc => ?_)
    · have h := go_ifp hc h
      refine go_aload_n dX4_likesMore_21 0 rfl ?_
      refine go_iload_n dX4_likesMore_22 2 rfl ?_
      refine go_iload_n dX4_likesMore_23 3 rfl ?_
      obtain ⟨q1, hq1, h⟩ := go_bind h
      refine pp_callV (as := [.int a1, .int a2]) (st := []) (rv := (some (.int q1))) (μ1 := μ) (st1 := [.int q1]) dX4_likesMore_24 ll_X4_38 sh_387 (by decide) rfl (ctX4_favourOf  hq1) rfl (Nat.le_of_ble_eq_true rfl) (Nat.le_of_ble_eq_true rfl) (go_Z_up w _) rfl rfl ?_
      refine go_pick [0, 1, 2, 3, 4] rfl ?_
      exact jqX4_likesMore_27 w tx Q μ a0 a1 a2 a3   q1  _ h hK
    · have h := go_ifn hc h
      refine go_aload_n dX4_likesMore_12 0 rfl ?_
      refine go_iload_n dX4_likesMore_13 2 rfl ?_
      refine go_iload_n dX4_likesMore_14 3 rfl ?_
      obtain ⟨q4, hq4, h⟩ := go_bind h
      refine pp_callV (as := [.int a1, .int a2]) (st := []) (rv := (some (.int q4))) (μ1 := μ) (st1 := [.int q4]) dX4_likesMore_15 ll_X4_34 sh_387 (by decide) rfl (ctX4_wantOf  hq4) rfl (Nat.le_of_ble_eq_true rfl) (Nat.le_of_ble_eq_true rfl) (go_Z_up w _) rfl rfl ?_
      refine go_goto 27 dX4_likesMore_18 (by decide) ?_
      refine go_pick [0, 1, 2, 3, 4] rfl ?_
      exact jqX4_likesMore_27 w tx Q μ a0 a1 a2 a3   q4  _ h hK
  · have h := go_ifp hc h
    refine go_iconst (v := 1) dX4_likesMore_6 (by decide) ?_
    cases h
    exact go_zret dX4_likesMore_7 rfl (Or.inr rfl) hK
theorem ctX4_likesMore {w : go_Wd} {tx : Nat} {μ : PM} {a0 : Int32} {a1 : Int32} {a2 : Int32} {a3 : Int32} {r : Int32}  (h : fX4_likesMore μ a0 a1 a2 a3 = some r) : Ct w 2 0 0 mtX4_likesMore [.ref 387, .int a0, .int a1, .int a2, .int a3] (go_mk tx μ) (fun r' M' => r' = some (.int r) ∧ M' = go_mk tx μ) :=
  go_entry rfl (by decide) (Nat.le_of_ble_eq_true rfl) (cmX4_likesMore w tx _ μ a0 a1 a2 a3 _ h ⟨rfl, rfl⟩)
def lbX4_ownerOf_2 (μ : PM) (a0 : Nat) (a1 : Int32)  (v3 : Int32) : Option ((Int32) ⊕ (Int32)) :=
  (if (μ.1 12 6) ≤ v3 then some (.inr ((-1))) else (if 5 ≤ v3 then some (.inr ((-1))) else go_chk v3 5 <| (if (μ.1 a0 v3.toNatClampNeg) = a1 then some (.inr (v3)) else some (.inl (v3 + 1)))))
def fX4_ownerOf (μ : PM) (a0 : Nat) (a1 : Int32) : Option (Int32) :=
  ((lp (fun s => lbX4_ownerOf_2 μ a0 a1 s) go_fuel 0).bind fun ρ2 => some ρ2)
def ggX4_ownerOf_2 (w : go_Wd) (tx : Nat) (Q : Option Value → go_M → Prop) (μ : PM) (a0 : Nat) (a1 : Int32)  (s : Int32) : Prop := Go w 0 0 0 mtX4_ownerOf 2 [(0, .ref 387), (1, .ref a0), (2, .int a1), (3, .int s)] [] (go_mk tx μ) (go_Z w Q)
def eeX4_ownerOf_2 (w : go_Wd) (tx : Nat) (Q : Option Value → go_M → Prop) (μ : PM) (a0 : Nat) (a1 : Int32)  (y : Int32) : Prop := Q (some (.int y)) (go_mk tx μ)
set_option maxRecDepth 20000 in
set_option maxHeartbeats 4000000 in
theorem lqX4_ownerOf_2 (w : go_Wd) (tx : Nat) (Q : Option Value → go_M → Prop) (μ : PM) (a0 : Nat) (a1 : Int32) (ha0 : go_SH[a0]? = some (100, 5))   (v3 : Int32) (out : (Int32) ⊕ (Int32)) (h : lbX4_ownerOf_2 μ a0 a1  v3 = some out) (hK : go_out (ggX4_ownerOf_2 w tx Q μ a0 a1 ) (eeX4_ownerOf_2 w tx Q μ a0 a1 ) out) : ggX4_ownerOf_2 w tx Q μ a0 a1  v3 := by
  unfold lbX4_ownerOf_2 at h
  show Go w 0 0 0 mtX4_ownerOf 2 [(0, .ref 387), (1, .ref a0), (2, .int a1), (3, .int v3)] [] (go_mk tx μ) (go_Z w Q)
  refine go_iload_n dX4_ownerOf_2 3 rfl ?_
  refine go_aload_n dX4_ownerOf_3 0 rfl ?_
  refine pp_getR dX4_ownerOf_4 ff_X4_30 (Or.inl ⟨_, rfl⟩) sh_387 rf_387_0 ?_
  refine pp_getR dX4_ownerOf_7 ff_X4_53 (Or.inl ⟨_, rfl⟩) go_isV_1.1 rf_1_10 ?_
  refine pp_getI dX4_ownerOf_10 ff_X4_57 (by decide) go_isW_12.1 ?_
  refine go_icmp_ge 37 dX4_ownerOf_13 (by decide) (fun hc => ?_) (fun hc => ?_)
  · have h := go_ifp hc h
    refine go_iconst (v := (-1)) dX4_ownerOf_37 (by decide) ?_
    cases h
    exact go_iret dX4_ownerOf_38 rfl hK
  · have h := go_ifn hc h
    refine go_iload_n dX4_ownerOf_16 3 rfl ?_
    refine go_aload_n dX4_ownerOf_17 1 rfl ?_
    refine pp_alen (v := 5) dX4_ownerOf_18 ha0 (by decide) ?_
    refine go_icmp_ge 37 dX4_ownerOf_19 (by decide) (fun hc => ?_) (fun hc => ?_)
    · have h := go_ifp hc h
      refine go_iconst (v := (-1)) dX4_ownerOf_37 (by decide) ?_
      cases h
      exact go_iret dX4_ownerOf_38 rfl hK
    · have h := go_ifn hc h
      refine go_aload_n dX4_ownerOf_22 1 rfl ?_
      refine go_iload_n dX4_ownerOf_23 3 rfl ?_
      obtain ⟨hz1, h⟩ := go_chk_e h
      refine pp_ild dX4_ownerOf_24 ha0 hz1 ?_
      refine go_iload_n dX4_ownerOf_25 2 rfl ?_
      refine go_icmp_ne 31 dX4_ownerOf_26 (by decide) (fun hc => ?_) (fun hc => ?_)
      · have h := go_ifn hc h
        refine go_iinc (v := (v3 + 1)) dX4_ownerOf_31 3 rfl rfl (by decide) rfl ?_
        show Go w 0 0 0 mtX4_ownerOf 34 [(3, .int (v3 + 1)), (0, .ref 387), (1, .ref a0), (2, .int a1)] [] (go_mk tx μ) (go_Z w Q)
        refine go_goto 2 dX4_ownerOf_34 (by decide) ?_
        cases h
        have hK : Go w 0 0 0 mtX4_ownerOf 2 [(0, .ref 387), (1, .ref a0), (2, .int a1), (3, .int (v3 + 1))] [] (go_mk tx μ) (go_Z w Q) := hK
        exact go_pick [1, 2, 3, 0] rfl hK
      · have h := go_ifp hc h
        refine go_iload_n dX4_ownerOf_29 3 rfl ?_
        cases h
        exact go_iret dX4_ownerOf_30 rfl hK
set_option maxRecDepth 20000 in
set_option maxHeartbeats 4000000 in
theorem cmX4_ownerOf (w : go_Wd) (tx : Nat) (Q : Option Value → go_M → Prop) (μ : PM) (a0 : Nat) (a1 : Int32) (ha0 : go_SH[a0]? = some (100, 5)) (out : Int32) (h : fX4_ownerOf μ a0 a1 = some out) (hK : Q (some (.int out)) (go_mk tx μ)) : Go w 0 0 0 mtX4_ownerOf 0 [(0, .ref 387), (1, .ref a0), (2, .int a1)] [] (go_mk tx μ) (go_Z w Q) := by
  unfold fX4_ownerOf at h
  refine go_iconst (v := 0) dX4_ownerOf_0 (by decide) ?_
  refine go_istore_n dX4_ownerOf_1 (by decide) rfl ?_
  show Go w 0 0 0 mtX4_ownerOf 2 [(3, .int 0), (0, .ref 387), (1, .ref a0), (2, .int a1)] [] (go_mk tx μ) (go_Z w Q)
  obtain ⟨ρ2, hρ2, h⟩ := go_bind h
  refine go_pick [1, 2, 3, 0] rfl ?_
  refine go_lp (G := ggX4_ownerOf_2 w tx Q μ a0 a1 ) (E := eeX4_ownerOf_2 w tx Q μ a0 a1 ) (fun s out h hK => lqX4_ownerOf_2 w tx Q μ a0 a1 ha0   s out h hK) go_fuel 0 ρ2 hρ2 ?_
  cases h
  exact hK
theorem ctX4_ownerOf {w : go_Wd} {tx : Nat} {μ : PM} {a0 : Nat} {a1 : Int32} {r : Int32} (ha0 : go_SH[a0]? = some (100, 5)) (h : fX4_ownerOf μ a0 a1 = some r) : Ct w 0 0 0 mtX4_ownerOf [.ref 387, .ref a0, .int a1] (go_mk tx μ) (fun r' M' => r' = some (.int r) ∧ M' = go_mk tx μ) :=
  go_entry rfl (by decide) (Nat.le_of_ble_eq_true rfl) (cmX4_ownerOf w tx _ μ a0 a1 ha0 _ h ⟨rfl, rfl⟩)
def lbX4_countRather_35 (μ : PM) (a0 : Nat) (v3 : Int32) (v4 : Int32) (v2 : Int32) (v5 : Int32) : Option ((Int32 × Int32) ⊕ ((Int32) ⊕ ((Int32 × Int32) ⊕ (Int32)))) :=
  (if (μ.1 12 6) ≤ v5 then some (.inr (.inl v2)) else (if 5 ≤ v5 then some (.inr (.inl v2)) else (fX4_isWanted μ v5 v3).bind fun q2 => (if q2 = 0 then some (.inl (v2, (v5 + 1))) else go_chk v5 5 <| (fX4_likesMore μ 1 v5 v3 (μ.1 a0 v5.toNatClampNeg)).bind fun q4 => (if q4 = 0 then some (.inl (v2, (v5 + 1))) else (fX4_likesMore μ 0 v3 v5 v4).bind fun q5 => (if q5 = 0 then some (.inl (v2, (v5 + 1))) else some (.inl ((v2 + 1), (v5 + 1))))))))
def lbX4_countRather_4 (μ : PM) (a0 : Nat)  (v2 : Int32) (v3 : Int32) : Option ((Int32 × Int32) ⊕ (Int32)) :=
  (if (μ.1 12 5) ≤ v3 then some (.inr (v2)) else (if 6 ≤ v3 then some (.inr (v2)) else (fX4_ownerOf μ a0 v3).bind fun q1 => ((lp (fun s => lbX4_countRather_35 μ a0 v3 q1 s.1 s.2) go_fuel (v2, 0)).bind fun ρ6 => go_cs ρ6 (fun e7 => some (.inl (e7, (v3 + 1)))) (fun y => some y))))
def fX4_countRather (μ : PM) (a0 : Nat) : Option (Int32) :=
  ((lp (fun s => lbX4_countRather_4 μ a0 s.1 s.2) go_fuel (0, 0)).bind fun ρ8 => some ρ8)
def ggX4_countRather_35 (w : go_Wd) (tx : Nat) (Q : Option Value → go_M → Prop) (μ : PM) (a0 : Nat) (v3 : Int32) (v4 : Int32) (s : Int32 × Int32) : Prop := Go w 3 0 0 mtX4_countRather 35 [(0, .ref 387), (1, .ref a0), (2, .int s.1), (3, .int v3), (4, .int v4), (5, .int s.2)] [] (go_mk tx μ) (go_Z w Q)
def ggX4_countRather_4 (w : go_Wd) (tx : Nat) (Q : Option Value → go_M → Prop) (μ : PM) (a0 : Nat)  (s : Int32 × Int32) : Prop := Go w 3 0 0 mtX4_countRather 4 [(0, .ref 387), (1, .ref a0), (2, .int s.1), (3, .int s.2)] [] (go_mk tx μ) (go_Z w Q)
def eeX4_countRather_4 (w : go_Wd) (tx : Nat) (Q : Option Value → go_M → Prop) (μ : PM) (a0 : Nat)  (y : Int32) : Prop := Q (some (.int y)) (go_mk tx μ)
def eeX4_countRather_35 (w : go_Wd) (tx : Nat) (Q : Option Value → go_M → Prop) (μ : PM) (a0 : Nat) (v3 : Int32) (v4 : Int32) : (Int32) ⊕ ((Int32 × Int32) ⊕ (Int32)) → Prop
  | .inl e => Go w 3 0 0 mtX4_countRather 104 [(0, .ref 387), (1, .ref a0), (2, .int e), (3, .int v3)] [] (go_mk tx μ) (go_Z w Q)
  | .inr y => go_out (ggX4_countRather_4 w tx Q μ a0 ) (eeX4_countRather_4 w tx Q μ a0 ) y
set_option maxRecDepth 20000 in
set_option maxHeartbeats 4000000 in
theorem lqX4_countRather_35 (w : go_Wd) (tx : Nat) (Q : Option Value → go_M → Prop) (μ : PM) (a0 : Nat) (ha0 : go_SH[a0]? = some (100, 5)) (v3 : Int32) (v4 : Int32)  (v2 : Int32) (v5 : Int32) (out : (Int32 × Int32) ⊕ ((Int32) ⊕ ((Int32 × Int32) ⊕ (Int32)))) (h : lbX4_countRather_35 μ a0 v3 v4 v2 v5 = some out) (hK : go_out (ggX4_countRather_35 w tx Q μ a0 v3 v4) (eeX4_countRather_35 w tx Q μ a0 v3 v4) out) : ggX4_countRather_35 w tx Q μ a0 v3 v4 (v2, v5) := by
  unfold lbX4_countRather_35 at h
  show Go w 3 0 0 mtX4_countRather 35 [(0, .ref 387), (1, .ref a0), (2, .int v2), (3, .int v3), (4, .int v4), (5, .int v5)] [] (go_mk tx μ) (go_Z w Q)
  refine go_iload dX4_countRather_35 5 rfl ?_
  refine go_aload_n dX4_countRather_37 0 rfl ?_
  refine pp_getR dX4_countRather_38 ff_X4_30 (Or.inl ⟨_, rfl⟩) sh_387 rf_387_0 ?_
  refine pp_getR dX4_countRather_41 ff_X4_53 (Or.inl ⟨_, rfl⟩) go_isV_1.1 rf_1_10 ?_
  refine pp_getI dX4_countRather_44 ff_X4_57 (by decide) go_isW_12.1 ?_
  refine go_icmp_ge 104 dX4_countRather_47 (by decide) (fun hc => ?_) (fun hc => ?_)
  · have h := go_ifp hc h
    cases h
    have hK : Go w 3 0 0 mtX4_countRather 104 [(0, .ref 387), (1, .ref a0), (2, .int v2), (3, .int v3)] [] (go_mk tx μ) (go_Z w Q) := hK
    exact go_pick [0, 1, 2, 3] rfl hK
  · have h := go_ifn hc h
    refine go_iload dX4_countRather_50 5 rfl ?_
    refine go_aload_n dX4_countRather_52 1 rfl ?_
    refine pp_alen (v := 5) dX4_countRather_53 ha0 (by decide) ?_
    refine go_icmp_ge 104 dX4_countRather_54 (by decide) (fun hc => ?_) (fun hc => ?_)
    · have h := go_ifp hc h
      cases h
      have hK : Go w 3 0 0 mtX4_countRather 104 [(0, .ref 387), (1, .ref a0), (2, .int v2), (3, .int v3)] [] (go_mk tx μ) (go_Z w Q) := hK
      exact go_pick [0, 1, 2, 3] rfl hK
    · have h := go_ifn hc h
      refine go_aload_n dX4_countRather_57 0 rfl ?_
      refine go_iload dX4_countRather_58 5 rfl ?_
      refine go_iload_n dX4_countRather_60 3 rfl ?_
      obtain ⟨q2, hq2, h⟩ := go_bind h
      refine pp_callV (as := [.int v5, .int v3]) (st := []) (rv := (some (.int q2))) (μ1 := μ) (st1 := [.int q2]) dX4_countRather_61 ll_X4_70 sh_387 (by decide) rfl (ctX4_isWanted  hq2) rfl (Nat.le_of_ble_eq_true rfl) (Nat.le_of_ble_eq_true rfl) (go_Z_up w _) rfl rfl ?_
      refine go_if_eq 98 dX4_countRather_64 (by decide) (fun hc => ?_) (fun hc => ?_)
      · have h := go_ifp hc h
        refine go_iinc (v := (v5 + 1)) dX4_countRather_98 5 rfl rfl (by decide) rfl ?_
        show Go w 3 0 0 mtX4_countRather 101 [(5, .int (v5 + 1)), (0, .ref 387), (1, .ref a0), (2, .int v2), (3, .int v3), (4, .int v4)] [] (go_mk tx μ) (go_Z w Q)
        refine go_goto 35 dX4_countRather_101 (by decide) ?_
        cases h
        have hK : Go w 3 0 0 mtX4_countRather 35 [(0, .ref 387), (1, .ref a0), (2, .int v2), (3, .int v3), (4, .int v4), (5, .int (v5 + 1))] [] (go_mk tx μ) (go_Z w Q) := hK
        exact go_pick [1, 2, 3, 4, 5, 0] rfl hK
      · have h := go_ifn hc h
        refine go_aload_n dX4_countRather_67 0 rfl ?_
        refine go_iconst (v := 1) dX4_countRather_68 (by decide) ?_
        refine go_iload dX4_countRather_69 5 rfl ?_
        refine go_iload_n dX4_countRather_71 3 rfl ?_
        refine go_aload_n dX4_countRather_72 1 rfl ?_
        refine go_iload dX4_countRather_73 5 rfl ?_
        obtain ⟨hz3, h⟩ := go_chk_e h
        refine pp_ild dX4_countRather_75 ha0 hz3 ?_
        obtain ⟨q4, hq4, h⟩ := go_bind h
        refine pp_callV (as := [.int 1, .int v5, .int v3, .int (μ.1 a0 v5.toNatClampNeg)]) (st := []) (rv := (some (.int q4))) (μ1 := μ) (st1 := [.int q4]) dX4_countRather_76 ll_X4_74 sh_387 (by decide) rfl (ctX4_likesMore  hq4) rfl (Nat.le_of_ble_eq_true rfl) (Nat.le_of_ble_eq_true rfl) (go_Z_up w _) rfl rfl ?_
        refine go_if_eq 98 dX4_countRather_79 (by decide) (fun hc => ?_) (fun hc => ?_)
        · have h := go_ifp hc h
          refine go_iinc (v := (v5 + 1)) dX4_countRather_98 5 rfl rfl (by decide) rfl ?_
          show Go w 3 0 0 mtX4_countRather 101 [(5, .int (v5 + 1)), (0, .ref 387), (1, .ref a0), (2, .int v2), (3, .int v3), (4, .int v4)] [] (go_mk tx μ) (go_Z w Q)
          refine go_goto 35 dX4_countRather_101 (by decide) ?_
          cases h
          have hK : Go w 3 0 0 mtX4_countRather 35 [(0, .ref 387), (1, .ref a0), (2, .int v2), (3, .int v3), (4, .int v4), (5, .int (v5 + 1))] [] (go_mk tx μ) (go_Z w Q) := hK
          exact go_pick [1, 2, 3, 4, 5, 0] rfl hK
        · have h := go_ifn hc h
          refine go_aload_n dX4_countRather_82 0 rfl ?_
          refine go_iconst (v := 0) dX4_countRather_83 (by decide) ?_
          refine go_iload_n dX4_countRather_84 3 rfl ?_
          refine go_iload dX4_countRather_85 5 rfl ?_
          refine go_iload dX4_countRather_87 4 rfl ?_
          obtain ⟨q5, hq5, h⟩ := go_bind h
          refine pp_callV (as := [.int 0, .int v3, .int v5, .int v4]) (st := []) (rv := (some (.int q5))) (μ1 := μ) (st1 := [.int q5]) dX4_countRather_89 ll_X4_74 sh_387 (by decide) rfl (ctX4_likesMore  hq5) rfl (Nat.le_of_ble_eq_true rfl) (Nat.le_of_ble_eq_true rfl) (go_Z_up w _) rfl rfl ?_
          refine go_if_eq 98 dX4_countRather_92 (by decide) (fun hc => ?_) (fun hc => ?_)
          · have h := go_ifp hc h
            refine go_iinc (v := (v5 + 1)) dX4_countRather_98 5 rfl rfl (by decide) rfl ?_
            show Go w 3 0 0 mtX4_countRather 101 [(5, .int (v5 + 1)), (0, .ref 387), (1, .ref a0), (2, .int v2), (3, .int v3), (4, .int v4)] [] (go_mk tx μ) (go_Z w Q)
            refine go_goto 35 dX4_countRather_101 (by decide) ?_
            cases h
            have hK : Go w 3 0 0 mtX4_countRather 35 [(0, .ref 387), (1, .ref a0), (2, .int v2), (3, .int v3), (4, .int v4), (5, .int (v5 + 1))] [] (go_mk tx μ) (go_Z w Q) := hK
            exact go_pick [1, 2, 3, 4, 5, 0] rfl hK
          · have h := go_ifn hc h
            refine go_iinc (v := (v2 + 1)) dX4_countRather_95 2 rfl rfl (by decide) rfl ?_
            show Go w 3 0 0 mtX4_countRather 98 [(2, .int (v2 + 1)), (0, .ref 387), (1, .ref a0), (3, .int v3), (4, .int v4), (5, .int v5)] [] (go_mk tx μ) (go_Z w Q)
            refine go_iinc (v := (v5 + 1)) dX4_countRather_98 5 rfl rfl (by decide) rfl ?_
            show Go w 3 0 0 mtX4_countRather 101 [(5, .int (v5 + 1)), (2, .int (v2 + 1)), (0, .ref 387), (1, .ref a0), (3, .int v3), (4, .int v4)] [] (go_mk tx μ) (go_Z w Q)
            refine go_goto 35 dX4_countRather_101 (by decide) ?_
            cases h
            have hK : Go w 3 0 0 mtX4_countRather 35 [(0, .ref 387), (1, .ref a0), (2, .int (v2 + 1)), (3, .int v3), (4, .int v4), (5, .int (v5 + 1))] [] (go_mk tx μ) (go_Z w Q) := hK
            exact go_pick [2, 3, 1, 4, 5, 0] rfl hK
set_option maxRecDepth 20000 in
set_option maxHeartbeats 4000000 in
theorem lqX4_countRather_4 (w : go_Wd) (tx : Nat) (Q : Option Value → go_M → Prop) (μ : PM) (a0 : Nat) (ha0 : go_SH[a0]? = some (100, 5))   (v2 : Int32) (v3 : Int32) (out : (Int32 × Int32) ⊕ (Int32)) (h : lbX4_countRather_4 μ a0  v2 v3 = some out) (hK : go_out (ggX4_countRather_4 w tx Q μ a0 ) (eeX4_countRather_4 w tx Q μ a0 ) out) : ggX4_countRather_4 w tx Q μ a0  (v2, v3) := by
  unfold lbX4_countRather_4 at h
  show Go w 3 0 0 mtX4_countRather 4 [(0, .ref 387), (1, .ref a0), (2, .int v2), (3, .int v3)] [] (go_mk tx μ) (go_Z w Q)
  refine go_iload_n dX4_countRather_4 3 rfl ?_
  refine go_aload_n dX4_countRather_5 0 rfl ?_
  refine pp_getR dX4_countRather_6 ff_X4_30 (Or.inl ⟨_, rfl⟩) sh_387 rf_387_0 ?_
  refine pp_getR dX4_countRather_9 ff_X4_53 (Or.inl ⟨_, rfl⟩) go_isV_1.1 rf_1_10 ?_
  refine pp_getI dX4_countRather_12 ff_X4_63 (by decide) go_isW_12.1 ?_
  refine go_icmp_ge 110 dX4_countRather_15 (by decide) (fun hc => ?_) (fun hc => ?_)
  · have h := go_ifp hc h
    refine go_iload_n dX4_countRather_110 2 rfl ?_
    cases h
    exact go_iret dX4_countRather_111 rfl hK
  · have h := go_ifn hc h
    refine go_iload_n dX4_countRather_18 3 rfl ?_
    refine go_bipush (v := 6) dX4_countRather_19 (by decide) ?_
    refine go_icmp_ge 110 dX4_countRather_21 (by decide) (fun hc => ?_) (fun hc => ?_)
    · have h := go_ifp hc h
      refine go_iload_n dX4_countRather_110 2 rfl ?_
      cases h
      exact go_iret dX4_countRather_111 rfl hK
    · have h := go_ifn hc h
      refine go_aload_n dX4_countRather_24 0 rfl ?_
      refine go_aload_n dX4_countRather_25 1 rfl ?_
      refine go_iload_n dX4_countRather_26 3 rfl ?_
      obtain ⟨q1, hq1, h⟩ := go_bind h
      refine pp_callV (as := [.ref a0, .int v3]) (st := []) (rv := (some (.int q1))) (μ1 := μ) (st1 := [.int q1]) dX4_countRather_27 ll_X4_66 sh_387 (by decide) rfl (ctX4_ownerOf ha0 hq1) rfl (Nat.le_of_ble_eq_true rfl) (Nat.le_of_ble_eq_true rfl) (go_Z_up w _) rfl rfl ?_
      refine go_istore dX4_countRather_30 (by decide) rfl ?_
      show Go w 3 0 0 mtX4_countRather 32 [(4, .int q1), (0, .ref 387), (1, .ref a0), (2, .int v2), (3, .int v3)] [] (go_mk tx μ) (go_Z w Q)
      refine go_iconst (v := 0) dX4_countRather_32 (by decide) ?_
      refine go_istore dX4_countRather_33 (by decide) rfl ?_
      show Go w 3 0 0 mtX4_countRather 35 [(5, .int 0), (4, .int q1), (0, .ref 387), (1, .ref a0), (2, .int v2), (3, .int v3)] [] (go_mk tx μ) (go_Z w Q)
      obtain ⟨ρ6, hρ6, h⟩ := go_bind h
      refine go_pick [2, 3, 4, 5, 1, 0] rfl ?_
      refine go_lp (G := ggX4_countRather_35 w tx Q μ a0 v3 q1) (E := eeX4_countRather_35 w tx Q μ a0 v3 q1) (fun s out h hK => lqX4_countRather_35 w tx Q μ a0 ha0 v3 q1  s.1 s.2 out h hK) go_fuel (v2, 0) ρ6 hρ6 ?_
      rcases ρ6 with e7 | y
      · have h := go_csl h
        show Go w 3 0 0 mtX4_countRather 104 [(0, .ref 387), (1, .ref a0), (2, .int e7), (3, .int v3)] [] (go_mk tx μ) (go_Z w Q)
        refine go_iinc (v := (v3 + 1)) dX4_countRather_104 3 rfl rfl (by decide) rfl ?_
        show Go w 3 0 0 mtX4_countRather 107 [(3, .int (v3 + 1)), (0, .ref 387), (1, .ref a0), (2, .int e7)] [] (go_mk tx μ) (go_Z w Q)
        refine go_goto 4 dX4_countRather_107 (by decide) ?_
        cases h
        have hK : Go w 3 0 0 mtX4_countRather 4 [(0, .ref 387), (1, .ref a0), (2, .int e7), (3, .int (v3 + 1))] [] (go_mk tx μ) (go_Z w Q) := hK
        exact go_pick [1, 2, 3, 0] rfl hK
      · have h := go_csr h
        cases h
        exact hK
set_option maxRecDepth 20000 in
set_option maxHeartbeats 4000000 in
theorem cmX4_countRather (w : go_Wd) (tx : Nat) (Q : Option Value → go_M → Prop) (μ : PM) (a0 : Nat) (ha0 : go_SH[a0]? = some (100, 5)) (out : Int32) (h : fX4_countRather μ a0 = some out) (hK : Q (some (.int out)) (go_mk tx μ)) : Go w 3 0 0 mtX4_countRather 0 [(0, .ref 387), (1, .ref a0)] [] (go_mk tx μ) (go_Z w Q) := by
  unfold fX4_countRather at h
  refine go_iconst (v := 0) dX4_countRather_0 (by decide) ?_
  refine go_istore_n dX4_countRather_1 (by decide) rfl ?_
  show Go w 3 0 0 mtX4_countRather 2 [(2, .int 0), (0, .ref 387), (1, .ref a0)] [] (go_mk tx μ) (go_Z w Q)
  refine go_iconst (v := 0) dX4_countRather_2 (by decide) ?_
  refine go_istore_n dX4_countRather_3 (by decide) rfl ?_
  show Go w 3 0 0 mtX4_countRather 4 [(3, .int 0), (2, .int 0), (0, .ref 387), (1, .ref a0)] [] (go_mk tx μ) (go_Z w Q)
  obtain ⟨ρ8, hρ8, h⟩ := go_bind h
  refine go_pick [2, 3, 1, 0] rfl ?_
  refine go_lp (G := ggX4_countRather_4 w tx Q μ a0 ) (E := eeX4_countRather_4 w tx Q μ a0 ) (fun s out h hK => lqX4_countRather_4 w tx Q μ a0 ha0   s.1 s.2 out h hK) go_fuel (0, 0) ρ8 hρ8 ?_
  cases h
  exact hK
theorem ctX4_countRather {w : go_Wd} {tx : Nat} {μ : PM} {a0 : Nat} {r : Int32} (ha0 : go_SH[a0]? = some (100, 5)) (h : fX4_countRather μ a0 = some r) : Ct w 3 0 0 mtX4_countRather [.ref 387, .ref a0] (go_mk tx μ) (fun r' M' => r' = some (.int r) ∧ M' = go_mk tx μ) :=
  go_entry rfl (by decide) (Nat.le_of_ble_eq_true rfl) (cmX4_countRather w tx _ μ a0 ha0 _ h ⟨rfl, rfl⟩)
def lbJ7_fill_53178_5 (a0 : Nat) (n0 : Nat) (a1 : Int32) (v3 : Int32) (v2 : Int32) (μ : PM) : Option ((Int32 × PM) ⊕ (PM)) :=
  (if v3 ≤ v2 then some (.inr (μ)) else go_chk v2 n0 <| go_let (pm_wi μ a0 v2.toNatClampNeg a1) fun μ2 => some (.inl ((v2 + 1), μ2)))
def fJ7_fill_53178 (μ : PM) (a0 : Nat) (n0 : Nat) (a1 : Int32) : Option (PM) :=
  go_let ((Int32.ofNat n0)) fun x1 => ((lp (fun s => lbJ7_fill_53178_5 a0 n0 a1 x1 s.1 s.2) go_fuel (0, μ)).bind fun ρ4 => some ρ4)
def ggJ7_fill_53178_5 (w : go_Wd) (tx : Nat) (Q : Option Value → go_M → Prop) (a0 : Nat) (n0 : Nat) (a1 : Int32) (v3 : Int32) (s : Int32 × PM) : Prop := Go w 0 0 0 mtJ7_fill_53178 5 [(0, .ref a0), (1, .int a1), (2, .int s.1), (3, .int v3)] [] (go_mk tx s.2) (go_Z w Q)
def eeJ7_fill_53178_5 (w : go_Wd) (tx : Nat) (Q : Option Value → go_M → Prop) (a0 : Nat) (n0 : Nat) (a1 : Int32) (v3 : Int32) (y : PM) : Prop := Q none (go_mk tx y)
set_option maxRecDepth 20000 in
set_option maxHeartbeats 4000000 in
theorem lqJ7_fill_53178_5 (w : go_Wd) (tx : Nat) (Q : Option Value → go_M → Prop) (a0 : Nat) (n0 : Nat) (a1 : Int32) (ha0 : go_SH[a0]? = some (100, n0)) (v3 : Int32)  (v2 : Int32) (μ : PM) (out : (Int32 × PM) ⊕ (PM)) (h : lbJ7_fill_53178_5 a0 n0 a1 v3 v2 μ = some out) (hK : go_out (ggJ7_fill_53178_5 w tx Q a0 n0 a1 v3) (eeJ7_fill_53178_5 w tx Q a0 n0 a1 v3) out) : ggJ7_fill_53178_5 w tx Q a0 n0 a1 v3 (v2, μ) := by
  unfold lbJ7_fill_53178_5 at h
  show Go w 0 0 0 mtJ7_fill_53178 5 [(0, .ref a0), (1, .int a1), (2, .int v2), (3, .int v3)] [] (go_mk tx μ) (go_Z w Q)
  refine go_iload_n dJ7_fill_53178_5 2 rfl ?_
  refine go_iload_n dJ7_fill_53178_6 3 rfl ?_
  refine go_icmp_ge 20 dJ7_fill_53178_7 (by decide) (fun hc => ?_) (fun hc => ?_)
  · have h := go_ifp hc h
    cases h
    exact go_vret dJ7_fill_53178_20 rfl hK
  · have h := go_ifn hc h
    refine go_aload_n dJ7_fill_53178_10 0 rfl ?_
    refine go_iload_n dJ7_fill_53178_11 2 rfl ?_
    refine go_iload_n dJ7_fill_53178_12 1 rfl ?_
    obtain ⟨hz3, h⟩ := go_chk_e h
    obtain ⟨μ2, hμ2, h⟩ := go_let_e h
    refine pp_ist dJ7_fill_53178_13 ha0 hz3 hμ2 ?_
    refine go_iinc (v := (v2 + 1)) dJ7_fill_53178_14 2 rfl rfl (by decide) rfl ?_
    show Go w 0 0 0 mtJ7_fill_53178 17 [(2, .int (v2 + 1)), (0, .ref a0), (1, .int a1), (3, .int v3)] [] (go_mk tx μ2) (go_Z w Q)
    refine go_goto 5 dJ7_fill_53178_17 (by decide) ?_
    cases h
    have hK : Go w 0 0 0 mtJ7_fill_53178 5 [(0, .ref a0), (1, .int a1), (2, .int (v2 + 1)), (3, .int v3)] [] (go_mk tx μ2) (go_Z w Q) := hK
    exact go_pick [1, 2, 0, 3] rfl hK
set_option maxRecDepth 20000 in
set_option maxHeartbeats 4000000 in
theorem cmJ7_fill_53178 (w : go_Wd) (tx : Nat) (Q : Option Value → go_M → Prop) (μ : PM) (a0 : Nat) (n0 : Nat) (a1 : Int32) (ha0 : go_SH[a0]? = some (100, n0)) (out : PM) (h : fJ7_fill_53178 μ a0 n0 a1 = some out) (hK : Q none (go_mk tx out)) : Go w 0 0 0 mtJ7_fill_53178 0 [(0, .ref a0), (1, .int a1)] [] (go_mk tx μ) (go_Z w Q) := by
  unfold fJ7_fill_53178 at h
  refine go_iconst (v := 0) dJ7_fill_53178_0 (by decide) ?_
  refine go_istore_n dJ7_fill_53178_1 (by decide) rfl ?_
  show Go w 0 0 0 mtJ7_fill_53178 2 [(2, .int 0), (0, .ref a0), (1, .int a1)] [] (go_mk tx μ) (go_Z w Q)
  refine go_aload_n dJ7_fill_53178_2 1 rfl ?_
  refine pp_alen (v := (Int32.ofNat n0)) dJ7_fill_53178_3 ha0 rfl ?_
  obtain ⟨x1, hx1, h⟩ := go_let_e h
  refine go_top hx1 ?_
  refine go_istore_n dJ7_fill_53178_4 (by decide) rfl ?_
  show Go w 0 0 0 mtJ7_fill_53178 5 [(3, .int x1), (2, .int 0), (0, .ref a0), (1, .int a1)] [] (go_mk tx μ) (go_Z w Q)
  obtain ⟨ρ4, hρ4, h⟩ := go_bind h
  refine go_pick [2, 3, 1, 0] rfl ?_
  refine go_lp (G := ggJ7_fill_53178_5 w tx Q a0 n0 a1 x1) (E := eeJ7_fill_53178_5 w tx Q a0 n0 a1 x1) (fun s out h hK => lqJ7_fill_53178_5 w tx Q a0 n0 a1 ha0 x1  s.1 s.2 out h hK) go_fuel (0, μ) ρ4 hρ4 ?_
  cases h
  exact hK
theorem ctJ7_fill_53178 {w : go_Wd} {tx : Nat} {μ : PM} {a0 : Nat} {n0 : Nat} {a1 : Int32} {μ1 : PM} (ha0 : go_SH[a0]? = some (100, n0)) (h : fJ7_fill_53178 μ a0 n0 a1 = some μ1) : Ct w 0 0 0 mtJ7_fill_53178 [.ref a0, .int a1] (go_mk tx μ) (fun r' M' => r' = none ∧ M' = go_mk tx μ1) :=
  go_entry rfl (by decide) (Nat.le_of_ble_eq_true rfl) (cmJ7_fill_53178 w tx _ μ a0 n0 a1 ha0 _ h ⟨rfl, rfl⟩)
def jjX4_bestToAsk_70_43 (μ : PM) (a0 : Int32) (a1 : Int32) (v3 : Int32) (v4 : Int32) (v5 : Int32) (s0 : Int32) : Option ((Int32 × Int32) ⊕ (Int32)) :=
  (if s0 = 0 then some (.inl (v4, (v5 + 1))) else go_chk a1 6 <| (if (fX11_hasBit (μ.1 390 a1.toNatClampNeg) v5) = 0 then (fX4_likesMore μ a0 a1 v5 v4).bind fun q3 => (if q3 = 0 then some (.inl (v4, (v5 + 1))) else some (.inl (v5, (v5 + 1)))) else some (.inl (v4, (v5 + 1)))))
def lbX4_bestToAsk_43 (μ : PM) (a0 : Int32) (a1 : Int32) (v3 : Int32) (v4 : Int32) (v5 : Int32) : Option ((Int32 × Int32) ⊕ (Int32)) :=
  (if v3 ≤ v5 then some (.inr (v4)) else (if a0 = 0 then (fX4_isWanted μ v5 a1).bind fun q1 => jjX4_bestToAsk_70_43 μ a0 a1 v3 v4 v5 q1 else (fX4_isWanted μ a1 v5).bind fun q4 => jjX4_bestToAsk_70_43 μ a0 a1 v3 v4 v5 q4))
def jjX4_bestToAsk_36 (μ : PM) (a0 : Int32) (a1 : Int32)  (s0 : Int32) : Option (Int32) :=
  ((lp (fun s => lbX4_bestToAsk_43 μ a0 a1 s0 s.1 s.2) go_fuel ((-1), 0)).bind fun ρ5 => some ρ5)
def fX4_bestToAsk (μ : PM) (a0 : Int32) (a1 : Int32) : Option (Int32) :=
  (if a0 = 0 then jjX4_bestToAsk_36 μ a0 a1 ((jmin (μ.1 12 6) 5)) else jjX4_bestToAsk_36 μ a0 a1 ((jmin (μ.1 12 5) 6)))
def ggX4_bestToAsk_43 (w : go_Wd) (tx : Nat) (Q : Option Value → go_M → Prop) (μ : PM) (a0 : Int32) (a1 : Int32) (v3 : Int32) (s : Int32 × Int32) : Prop := Go w 3 0 0 mtX4_bestToAsk 43 [(0, .ref 387), (1, .int a0), (2, .int a1), (3, .int v3), (4, .int s.1), (5, .int s.2)] [] (go_mk tx μ) (go_Z w Q)
def eeX4_bestToAsk_43 (w : go_Wd) (tx : Nat) (Q : Option Value → go_M → Prop) (μ : PM) (a0 : Int32) (a1 : Int32) (v3 : Int32) (y : Int32) : Prop := Q (some (.int y)) (go_mk tx μ)
set_option maxRecDepth 20000 in
set_option maxHeartbeats 4000000 in
theorem jqX4_bestToAsk_70_43 (w : go_Wd) (tx : Nat) (Q : Option Value → go_M → Prop) (μ : PM) (a0 : Int32) (a1 : Int32) (v3 : Int32) (v4 : Int32) (v5 : Int32)  (s0 : Int32)  (out : (Int32 × Int32) ⊕ (Int32)) (h : jjX4_bestToAsk_70_43 μ a0 a1 v3 v4 v5 s0 = some out) (hK : go_out (ggX4_bestToAsk_43 w tx Q μ a0 a1 v3) (eeX4_bestToAsk_43 w tx Q μ a0 a1 v3) out) : Go w 3 0 0 mtX4_bestToAsk 70 [(0, .ref 387), (1, .int a0), (2, .int a1), (3, .int v3), (4, .int v4), (5, .int v5)] [.int s0] (go_mk tx μ) (go_Z w Q) := by
  unfold jjX4_bestToAsk_70_43 at h
  refine go_istore dX4_bestToAsk_70 (by decide) rfl ?_
  show Go w 3 0 0 mtX4_bestToAsk 72 [(6, .int s0), (0, .ref 387), (1, .int a0), (2, .int a1), (3, .int v3), (4, .int v4), (5, .int v5)] [] (go_mk tx μ) (go_Z w Q)
  refine go_iload dX4_bestToAsk_72 0 rfl ?_
  refine go_if_eq 108 dX4_bestToAsk_74 (by decide) (fun hc => ?_) (fun hc => ?_)
  · have h := go_ifp hc h
    refine go_iinc (v := (v5 + 1)) dX4_bestToAsk_108 6 rfl rfl (by decide) rfl ?_
    show Go w 3 0 0 mtX4_bestToAsk 111 [(5, .int (v5 + 1)), (6, .int s0), (0, .ref 387), (1, .int a0), (2, .int a1), (3, .int v3), (4, .int v4)] [] (go_mk tx μ) (go_Z w Q)
    refine go_goto 43 dX4_bestToAsk_111 (by decide) ?_
    cases h
    have hK : Go w 3 0 0 mtX4_bestToAsk 43 [(0, .ref 387), (1, .int a0), (2, .int a1), (3, .int v3), (4, .int v4), (5, .int (v5 + 1))] [] (go_mk tx μ) (go_Z w Q) := hK
    exact go_pick [2, 3, 4, 5, 6, 0] rfl hK
  · have h := go_ifn hc h
    refine go_aload_n dX4_bestToAsk_77 1 rfl ?_
    refine pp_getR dX4_bestToAsk_78 ff_X4_18 (Or.inr ⟨_, rfl⟩) sh_387 rf_387_3 ?_
    refine go_iload_n dX4_bestToAsk_81 3 rfl ?_
    obtain ⟨hz2, h⟩ := go_chk_e h
    refine pp_ild dX4_bestToAsk_82 sh_390 hz2 ?_
    refine go_iload dX4_bestToAsk_83 6 rfl ?_
    refine pp_callSN (as := [.int (μ.1 390 a1.toNatClampNeg), .int v5]) (st := []) (rv := (some (.int (fX11_hasBit (μ.1 390 a1.toNatClampNeg) v5)))) (μ1 := μ) (st1 := [.int (fX11_hasBit (μ.1 390 a1.toNatClampNeg) v5)]) dX4_bestToAsk_85 ll_X4_93 (ctX11_hasBit  rfl) rfl (Nat.le_of_ble_eq_true rfl) (Nat.le_of_ble_eq_true rfl) (go_Z_up w _) rfl rfl ?_
    refine go_if_ne 108 dX4_bestToAsk_88 (by decide) (fun hc => ?_) (fun hc => ?_)
    · have h := go_ifn hc h
      refine go_iinc (v := (v5 + 1)) dX4_bestToAsk_108 6 rfl rfl (by decide) rfl ?_
      show Go w 3 0 0 mtX4_bestToAsk 111 [(5, .int (v5 + 1)), (6, .int s0), (0, .ref 387), (1, .int a0), (2, .int a1), (3, .int v3), (4, .int v4)] [] (go_mk tx μ) (go_Z w Q)
      refine go_goto 43 dX4_bestToAsk_111 (by decide) ?_
      cases h
      have hK : Go w 3 0 0 mtX4_bestToAsk 43 [(0, .ref 387), (1, .int a0), (2, .int a1), (3, .int v3), (4, .int v4), (5, .int (v5 + 1))] [] (go_mk tx μ) (go_Z w Q) := hK
      exact go_pick [2, 3, 4, 5, 6, 0] rfl hK
    · have h := go_ifp hc h
      refine go_aload_n dX4_bestToAsk_91 1 rfl ?_
      refine go_iload_n dX4_bestToAsk_92 2 rfl ?_
      refine go_iload_n dX4_bestToAsk_93 3 rfl ?_
      refine go_iload dX4_bestToAsk_94 6 rfl ?_
      refine go_iload dX4_bestToAsk_96 5 rfl ?_
      obtain ⟨q3, hq3, h⟩ := go_bind h
      refine pp_callV (as := [.int a0, .int a1, .int v5, .int v4]) (st := []) (rv := (some (.int q3))) (μ1 := μ) (st1 := [.int q3]) dX4_bestToAsk_98 ll_X4_74 sh_387 (by decide) rfl (ctX4_likesMore  hq3) rfl (Nat.le_of_ble_eq_true rfl) (Nat.le_of_ble_eq_true rfl) (go_Z_up w _) rfl rfl ?_
      refine go_if_eq 108 dX4_bestToAsk_101 (by decide) (fun hc => ?_) (fun hc => ?_)
      · have h := go_ifp hc h
        refine go_iinc (v := (v5 + 1)) dX4_bestToAsk_108 6 rfl rfl (by decide) rfl ?_
        show Go w 3 0 0 mtX4_bestToAsk 111 [(5, .int (v5 + 1)), (6, .int s0), (0, .ref 387), (1, .int a0), (2, .int a1), (3, .int v3), (4, .int v4)] [] (go_mk tx μ) (go_Z w Q)
        refine go_goto 43 dX4_bestToAsk_111 (by decide) ?_
        cases h
        have hK : Go w 3 0 0 mtX4_bestToAsk 43 [(0, .ref 387), (1, .int a0), (2, .int a1), (3, .int v3), (4, .int v4), (5, .int (v5 + 1))] [] (go_mk tx μ) (go_Z w Q) := hK
        exact go_pick [2, 3, 4, 5, 6, 0] rfl hK
      · have h := go_ifn hc h
        refine go_iload dX4_bestToAsk_104 6 rfl ?_
        refine go_istore dX4_bestToAsk_106 (by decide) rfl ?_
        show Go w 3 0 0 mtX4_bestToAsk 108 [(4, .int v5), (6, .int s0), (0, .ref 387), (1, .int a0), (2, .int a1), (3, .int v3), (5, .int v5)] [] (go_mk tx μ) (go_Z w Q)
        refine go_iinc (v := (v5 + 1)) dX4_bestToAsk_108 6 rfl rfl (by decide) rfl ?_
        show Go w 3 0 0 mtX4_bestToAsk 111 [(5, .int (v5 + 1)), (4, .int v5), (6, .int s0), (0, .ref 387), (1, .int a0), (2, .int a1), (3, .int v3)] [] (go_mk tx μ) (go_Z w Q)
        refine go_goto 43 dX4_bestToAsk_111 (by decide) ?_
        cases h
        have hK : Go w 3 0 0 mtX4_bestToAsk 43 [(0, .ref 387), (1, .int a0), (2, .int a1), (3, .int v3), (4, .int v5), (5, .int (v5 + 1))] [] (go_mk tx μ) (go_Z w Q) := hK
        exact go_pick [3, 4, 5, 6, 1, 0] rfl hK
set_option maxRecDepth 20000 in
set_option maxHeartbeats 4000000 in
theorem lqX4_bestToAsk_43 (w : go_Wd) (tx : Nat) (Q : Option Value → go_M → Prop) (μ : PM) (a0 : Int32) (a1 : Int32) (v3 : Int32)  (v4 : Int32) (v5 : Int32) (out : (Int32 × Int32) ⊕ (Int32)) (h : lbX4_bestToAsk_43 μ a0 a1 v3 v4 v5 = some out) (hK : go_out (ggX4_bestToAsk_43 w tx Q μ a0 a1 v3) (eeX4_bestToAsk_43 w tx Q μ a0 a1 v3) out) : ggX4_bestToAsk_43 w tx Q μ a0 a1 v3 (v4, v5) := by
  unfold lbX4_bestToAsk_43 at h
  show Go w 3 0 0 mtX4_bestToAsk 43 [(0, .ref 387), (1, .int a0), (2, .int a1), (3, .int v3), (4, .int v4), (5, .int v5)] [] (go_mk tx μ) (go_Z w Q)
  refine go_iload dX4_bestToAsk_43 5 rfl ?_
  refine go_iload_n dX4_bestToAsk_45 3 rfl ?_
  refine go_icmp_ge 114 dX4_bestToAsk_46 (by decide) (fun hc => ?_) (fun hc => ?_)
  · have h := go_ifp hc h
    refine go_iload dX4_bestToAsk_114 4 rfl ?_
    cases h
    exact go_iret dX4_bestToAsk_116 rfl hK
  · have h := go_ifn hc h
    refine go_iload_n dX4_bestToAsk_49 1 rfl ?_
    refine go_if_eq 63 dX4_bestToAsk_50 (by decide) (fun hc => ?_) (fun hc => ?_)
    · have h := go_ifp hc h
      refine go_aload_n dX4_bestToAsk_63 0 rfl ?_
      refine go_iload dX4_bestToAsk_64 5 rfl ?_
      refine go_iload_n dX4_bestToAsk_66 2 rfl ?_
      obtain ⟨q1, hq1, h⟩ := go_bind h
      refine pp_callV (as := [.int v5, .int a1]) (st := []) (rv := (some (.int q1))) (μ1 := μ) (st1 := [.int q1]) dX4_bestToAsk_67 ll_X4_70 sh_387 (by decide) rfl (ctX4_isWanted  hq1) rfl (Nat.le_of_ble_eq_true rfl) (Nat.le_of_ble_eq_true rfl) (go_Z_up w _) rfl rfl ?_
      refine go_pick [0, 1, 2, 3, 4, 5] rfl ?_
      exact jqX4_bestToAsk_70_43 w tx Q μ a0 a1 v3 v4 v5  q1  _ h hK
    · have h := go_ifn hc h
      refine go_aload_n dX4_bestToAsk_53 0 rfl ?_
      refine go_iload_n dX4_bestToAsk_54 2 rfl ?_
      refine go_iload dX4_bestToAsk_55 5 rfl ?_
      obtain ⟨q4, hq4, h⟩ := go_bind h
      refine pp_callV (as := [.int a1, .int v5]) (st := []) (rv := (some (.int q4))) (μ1 := μ) (st1 := [.int q4]) dX4_bestToAsk_57 ll_X4_70 sh_387 (by decide) rfl (ctX4_isWanted  hq4) rfl (Nat.le_of_ble_eq_true rfl) (Nat.le_of_ble_eq_true rfl) (go_Z_up w _) rfl rfl ?_
      refine go_goto 70 dX4_bestToAsk_60 (by decide) ?_
      refine go_pick [0, 1, 2, 3, 4, 5] rfl ?_
      exact jqX4_bestToAsk_70_43 w tx Q μ a0 a1 v3 v4 v5  q4  _ h hK
set_option maxRecDepth 20000 in
set_option maxHeartbeats 4000000 in
theorem jqX4_bestToAsk_36 (w : go_Wd) (tx : Nat) (Q : Option Value → go_M → Prop) (μ : PM) (a0 : Int32) (a1 : Int32)   (s0 : Int32)  (out : Int32) (h : jjX4_bestToAsk_36 μ a0 a1  s0 = some out) (hK : Q (some (.int out)) (go_mk tx μ)) : Go w 3 0 0 mtX4_bestToAsk 36 [(0, .ref 387), (1, .int a0), (2, .int a1)] [.int s0] (go_mk tx μ) (go_Z w Q) := by
  unfold jjX4_bestToAsk_36 at h
  refine go_istore_n dX4_bestToAsk_36 (by decide) rfl ?_
  show Go w 3 0 0 mtX4_bestToAsk 37 [(3, .int s0), (0, .ref 387), (1, .int a0), (2, .int a1)] [] (go_mk tx μ) (go_Z w Q)
  refine go_iconst (v := (-1)) dX4_bestToAsk_37 (by decide) ?_
  refine go_istore dX4_bestToAsk_38 (by decide) rfl ?_
  show Go w 3 0 0 mtX4_bestToAsk 40 [(4, .int (-1)), (3, .int s0), (0, .ref 387), (1, .int a0), (2, .int a1)] [] (go_mk tx μ) (go_Z w Q)
  refine go_iconst (v := 0) dX4_bestToAsk_40 (by decide) ?_
  refine go_istore dX4_bestToAsk_41 (by decide) rfl ?_
  show Go w 3 0 0 mtX4_bestToAsk 43 [(5, .int 0), (4, .int (-1)), (3, .int s0), (0, .ref 387), (1, .int a0), (2, .int a1)] [] (go_mk tx μ) (go_Z w Q)
  obtain ⟨ρ5, hρ5, h⟩ := go_bind h
  refine go_pick [3, 4, 5, 2, 1, 0] rfl ?_
  refine go_lp (G := ggX4_bestToAsk_43 w tx Q μ a0 a1 s0) (E := eeX4_bestToAsk_43 w tx Q μ a0 a1 s0) (fun s out h hK => lqX4_bestToAsk_43 w tx Q μ a0 a1 s0  s.1 s.2 out h hK) go_fuel ((-1), 0) ρ5 hρ5 ?_
  cases h
  exact hK
set_option maxRecDepth 20000 in
set_option maxHeartbeats 4000000 in
theorem cmX4_bestToAsk (w : go_Wd) (tx : Nat) (Q : Option Value → go_M → Prop) (μ : PM) (a0 : Int32) (a1 : Int32) (out : Int32) (h : fX4_bestToAsk μ a0 a1 = some out) (hK : Q (some (.int out)) (go_mk tx μ)) : Go w 3 0 0 mtX4_bestToAsk 0 [(0, .ref 387), (1, .int a0), (2, .int a1)] [] (go_mk tx μ) (go_Z w Q) := by
  unfold fX4_bestToAsk at h
  refine go_iload_n dX4_bestToAsk_0 1 rfl ?_
  refine go_if_eq 22 dX4_bestToAsk_1 (by decide) (fun hc => ?_) (fun hc => ?_)
  · have h := go_ifp hc h
    refine go_aload_n dX4_bestToAsk_22 0 rfl ?_
    refine pp_getR dX4_bestToAsk_23 ff_X4_30 (Or.inl ⟨_, rfl⟩) sh_387 rf_387_0 ?_
    refine pp_getR dX4_bestToAsk_26 ff_X4_53 (Or.inl ⟨_, rfl⟩) go_isV_1.1 rf_1_10 ?_
    refine pp_getI dX4_bestToAsk_29 ff_X4_57 (by decide) go_isW_12.1 ?_
    refine go_iconst (v := 5) dX4_bestToAsk_32 (by decide) ?_
    refine go_mmin dX4_bestToAsk_33 mm_X4_84 (by decide) (Nat.le_of_ble_eq_true rfl) ?_
    refine go_top (x := (jmin (μ.1 12 6) 5)) rfl ?_
    refine go_pick [0, 1, 2] rfl ?_
    exact jqX4_bestToAsk_36 w tx Q μ a0 a1   ((jmin (μ.1 12 6) 5))  _ h hK
  · have h := go_ifn hc h
    refine go_aload_n dX4_bestToAsk_4 0 rfl ?_
    refine pp_getR dX4_bestToAsk_5 ff_X4_30 (Or.inl ⟨_, rfl⟩) sh_387 rf_387_0 ?_
    refine pp_getR dX4_bestToAsk_8 ff_X4_53 (Or.inl ⟨_, rfl⟩) go_isV_1.1 rf_1_10 ?_
    refine pp_getI dX4_bestToAsk_11 ff_X4_63 (by decide) go_isW_12.1 ?_
    refine go_bipush (v := 6) dX4_bestToAsk_14 (by decide) ?_
    refine go_mmin dX4_bestToAsk_16 mm_X4_84 (by decide) (Nat.le_of_ble_eq_true rfl) ?_
    refine go_top (x := (jmin (μ.1 12 5) 6)) rfl ?_
    refine go_goto 36 dX4_bestToAsk_19 (by decide) ?_
    refine go_pick [0, 1, 2] rfl ?_
    exact jqX4_bestToAsk_36 w tx Q μ a0 a1   ((jmin (μ.1 12 5) 6))  _ h hK
theorem ctX4_bestToAsk {w : go_Wd} {tx : Nat} {μ : PM} {a0 : Int32} {a1 : Int32} {r : Int32}  (h : fX4_bestToAsk μ a0 a1 = some r) : Ct w 3 0 0 mtX4_bestToAsk [.ref 387, .int a0, .int a1] (go_mk tx μ) (fun r' M' => r' = some (.int r) ∧ M' = go_mk tx μ) :=
  go_entry rfl (by decide) (Nat.le_of_ble_eq_true rfl) (cmX4_bestToAsk w tx _ μ a0 a1 _ h ⟨rfl, rfl⟩)