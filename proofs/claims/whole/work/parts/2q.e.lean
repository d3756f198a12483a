def jjX12_stable_78_15 (μ : PM) (a0 : Int32) (a1 : Int32) (v4 : Int32)  : Option ((Int32 × Int32 × PM) ⊕ (Int32 × PM)) :=
  go_chk a0 5 <| go_let ((μ.1 411 a0.toNatClampNeg)) fun x5 => some (.inl (x5, (v4 + 1), μ))
def lbX12_stable_15 (a0 : Int32) (a1 : Int32)  (v3 : Int32) (v4 : Int32) (μ : PM) : Option ((Int32 × Int32 × PM) ⊕ (Int32 × PM)) :=
  (fX12_codes μ).bind fun q1 => (if q1 ≤ v4 then some (.inr ((v3, μ))) else (fX12_isWay μ v4).bind fun q2 => (if q2.1 = 0 then some (.inl (v3, (v4 + 1), q2.2)) else go_chk a0 5 <| (if (q2.2.1 411 a0.toNatClampNeg) = 6 then some (.inl (v3, (v4 + 1), q2.2)) else (if v3 = (-1) then jjX12_stable_78_15 q2.2 a0 a1 v4 else go_chk a0 5 <| (if (q2.2.1 411 a0.toNatClampNeg) = v3 then some (.inl (v3, (v4 + 1), q2.2)) else go_chk a0 5 <| (fX12_wouldHave q2.2 a0 (q2.2.1 411 a0.toNatClampNeg) v3).bind fun q8 => (if q8 = a1 then jjX12_stable_78_15 q2.2 a0 a1 v4 else some (.inl (v3, (v4 + 1), q2.2))))))))
def fX12_stable (μ : PM) (a0 : Int32) (a1 : Int32) : Option (Int32 × PM) :=
  (if (fX12_isFamily μ a0) = 0 then some (((-1), μ)) else ((lp (fun s => lbX12_stable_15 a0 a1 s.1 s.2.1 s.2.2) go_fuel ((-1), 0, μ)).bind fun ρ9 => some ρ9))
def ggX12_stable_15 (w : go_Wd) (tx : Nat) (Q : Option Value → go_M → Prop) (a0 : Int32) (a1 : Int32)  (s : Int32 × Int32 × PM) : Prop := Go w 4 0 0 mtX12_stable 15 [(0, .ref 401), (1, .int a0), (2, .int a1), (3, .int s.1), (4, .int s.2.1)] [] (go_mk tx s.2.2) (go_Z w Q)
def eeX12_stable_15 (w : go_Wd) (tx : Nat) (Q : Option Value → go_M → Prop) (a0 : Int32) (a1 : Int32)  (y : Int32 × PM) : Prop := Q (some (.int y.1)) (go_mk tx y.2)
set_option maxRecDepth 20000 in
set_option maxHeartbeats 4000000 in
theorem jqX12_stable_78_15 (w : go_Wd) (tx : Nat) (Q : Option Value → go_M → Prop) (μ : PM) (a0 : Int32) (a1 : Int32) (v4 : Int32)    (out : (Int32 × Int32 × PM) ⊕ (Int32 × PM)) (h : jjX12_stable_78_15 μ a0 a1 v4  = some out) (hK : go_out (ggX12_stable_15 w tx Q a0 a1 ) (eeX12_stable_15 w tx Q a0 a1 ) out) : Go w 4 0 0 mtX12_stable 78 [(0, .ref 401), (1, .int a0), (2, .int a1), (4, .int v4)] [] (go_mk tx μ) (go_Z w Q) := by
  unfold jjX12_stable_78_15 at h
  refine go_aload_n dX12_stable_78 0 rfl ?_
  refine pp_getR dX12_stable_79 ff_X12_50 (Or.inr ⟨_, rfl⟩) sh_401 rf_401_26 ?_
  refine go_iload_n dX12_stable_82 1 rfl ?_
  obtain ⟨hz4, h⟩ := go_chk_e h
  refine pp_ild dX12_stable_83 sh_411 hz4 ?_
  obtain ⟨x5, hx5, h⟩ := go_let_e h
  refine go_top hx5 ?_
  refine go_istore_n dX12_stable_84 (by decide) rfl ?_
  show Go w 4 0 0 mtX12_stable 85 [(3, .int x5), (0, .ref 401), (1, .int a0), (2, .int a1), (4, .int v4)] [] (go_mk tx μ) (go_Z w Q)
  refine go_iinc (v := (v4 + 1)) dX12_stable_85 4 rfl rfl (by decide) rfl ?_
  show Go w 4 0 0 mtX12_stable 88 [(4, .int (v4 + 1)), (3, .int x5), (0, .ref 401), (1, .int a0), (2, .int a1)] [] (go_mk tx μ) (go_Z w Q)
  refine go_goto 15 dX12_stable_88 (by decide) ?_
  cases h
  have hK : Go w 4 0 0 mtX12_stable 15 [(0, .ref 401), (1, .int a0), (2, .int a1), (3, .int x5), (4, .int (v4 + 1))] [] (go_mk tx μ) (go_Z w Q) := hK
  exact go_pick [2, 3, 4, 1, 0] rfl hK
set_option maxRecDepth 20000 in
set_option maxHeartbeats 4000000 in
theorem lqX12_stable_15 (w : go_Wd) (tx : Nat) (Q : Option Value → go_M → Prop) (a0 : Int32) (a1 : Int32)   (v3 : Int32) (v4 : Int32) (μ : PM) (out : (Int32 × Int32 × PM) ⊕ (Int32 × PM)) (h : lbX12_stable_15 a0 a1  v3 v4 μ = some out) (hK : go_out (ggX12_stable_15 w tx Q a0 a1 ) (eeX12_stable_15 w tx Q a0 a1 ) out) : ggX12_stable_15 w tx Q a0 a1  (v3, v4, μ) := by
  unfold lbX12_stable_15 at h
  show Go w 4 0 0 mtX12_stable 15 [(0, .ref 401), (1, .int a0), (2, .int a1), (3, .int v3), (4, .int v4)] [] (go_mk tx μ) (go_Z w Q)
  refine go_iload dX12_stable_15 4 rfl ?_
  refine go_aload_n dX12_stable_17 0 rfl ?_
  obtain ⟨q1, hq1, h⟩ := go_bind h
  refine pp_callV (as := []) (st := [.int v4]) (rv := (some (.int q1))) (μ1 := μ) (st1 := [.int q1, .int v4]) dX12_stable_18 ll_X12_418 sh_401 (by decide) rfl (ctX12_codes  hq1) rfl (Nat.le_of_ble_eq_true rfl) (Nat.le_of_ble_eq_true rfl) (go_Z_up w _) rfl rfl ?_
  refine go_icmp_ge 91 dX12_stable_21 (by decide) (fun hc => ?_) (fun hc => ?_)
  · have h := go_ifp hc h
    refine go_iload_n dX12_stable_91 3 rfl ?_
    cases h
    exact go_iret dX12_stable_92 rfl hK
  · have h := go_ifn hc h
    refine go_aload_n dX12_stable_24 0 rfl ?_
    refine go_iload dX12_stable_25 4 rfl ?_
    obtain ⟨q2, hq2, h⟩ := go_bind h
    refine pp_callV (as := [.int v4]) (st := []) (rv := (some (.int q2.1))) (μ1 := q2.2) (st1 := [.int q2.1]) dX12_stable_27 ll_X12_421 sh_401 (by decide) rfl (ctX12_isWay  hq2) rfl (Nat.le_of_ble_eq_true rfl) (Nat.le_of_ble_eq_true rfl) (go_Z_up w _) rfl rfl ?_
    refine go_if_eq 85 dX12_stable_30 (by decide) (fun hc => ?_) (fun hc => ?_)
    · have h := go_ifp hc h
      refine go_iinc (v := (v4 + 1)) dX12_stable_85 4 rfl rfl (by decide) rfl ?_
      show Go w 4 0 0 mtX12_stable 88 [(4, .int (v4 + 1)), (0, .ref 401), (1, .int a0), (2, .int a1), (3, .int v3)] [] (go_mk tx q2.2) (go_Z w Q)
      refine go_goto 15 dX12_stable_88 (by decide) ?_
      cases h
      have hK : Go w 4 0 0 mtX12_stable 15 [(0, .ref 401), (1, .int a0), (2, .int a1), (3, .int v3), (4, .int (v4 + 1))] [] (go_mk tx q2.2) (go_Z w Q) := hK
      exact go_pick [1, 2, 3, 4, 0] rfl hK
    · have h := go_ifn hc h
      refine go_aload_n dX12_stable_33 0 rfl ?_
      refine pp_getR dX12_stable_34 ff_X12_50 (Or.inr ⟨_, rfl⟩) sh_401 rf_401_26 ?_
      refine go_iload_n dX12_stable_37 1 rfl ?_
      obtain ⟨hz3, h⟩ := go_chk_e h
      refine pp_ild dX12_stable_38 sh_411 hz3 ?_
      refine go_bipush (v := 6) dX12_stable_39 (by decide) ?_
      refine go_icmp_ne 47 dX12_stable_41 (by decide) (fun hc => ?_) (fun hc => ?_)
      · have h := go_ifn hc h
        refine go_iload_n dX12_stable_47 3 rfl ?_
        refine go_iconst (v := (-1)) dX12_stable_48 (by decide) ?_
        refine go_icmp_eq 78 dX12_stable_49 (by decide) (fun hc => ?_) (fun hc => ?_)
        · have h := go_ifp hc h
          refine go_pick [0, 1, 2, 4] rfl ?_
          exact jqX12_stable_78_15 w tx Q q2.2 a0 a1 v4    _ h hK
        · have h := go_ifn hc h
          refine go_aload_n dX12_stable_52 0 rfl ?_
          refine pp_getR dX12_stable_53 ff_X12_50 (Or.inr ⟨_, rfl⟩) sh_401 rf_401_26 ?_
          refine go_iload_n dX12_stable_56 1 rfl ?_
          obtain ⟨hz6, h⟩ := go_chk_e h
          refine pp_ild dX12_stable_57 sh_411 hz6 ?_
          refine go_iload_n dX12_stable_58 3 rfl ?_
          refine go_icmp_eq 85 dX12_stable_59 (by decide) (fun hc => ?_) (fun hc => ?_)
          · have h := go_ifp hc h
            refine go_iinc (v := (v4 + 1)) dX12_stable_85 4 rfl rfl (by decide) rfl ?_
            show Go w 4 0 0 mtX12_stable 88 [(4, .int (v4 + 1)), (0, .ref 401), (1, .int a0), (2, .int a1), (3, .int v3)] [] (go_mk tx q2.2) (go_Z w Q)
            refine go_goto 15 dX12_stable_88 (by decide) ?_
            cases h
            have hK : Go w 4 0 0 mtX12_stable 15 [(0, .ref 401), (1, .int a0), (2, .int a1), (3, .int v3), (4, .int (v4 + 1))] [] (go_mk tx q2.2) (go_Z w Q) := hK
            exact go_pick [1, 2, 3, 4, 0] rfl hK
          · have h := go_ifn hc h
            refine go_aload_n dX12_stable_62 0 rfl ?_
            refine go_iload_n dX12_stable_63 1 rfl ?_
            refine go_aload_n dX12_stable_64 0 rfl ?_
            refine pp_getR dX12_stable_65 ff_X12_50 (Or.inr ⟨_, rfl⟩) sh_401 rf_401_26 ?_
            refine go_iload_n dX12_stable_68 1 rfl ?_
            obtain ⟨hz7, h⟩ := go_chk_e h
            refine pp_ild dX12_stable_69 sh_411 hz7 ?_
            refine go_iload_n dX12_stable_70 3 rfl ?_
            obtain ⟨q8, hq8, h⟩ := go_bind h
            refine pp_callV (as := [.int a0, .int (q2.2.1 411 a0.toNatClampNeg), .int v3]) (st := []) (rv := (some (.int q8))) (μ1 := q2.2) (st1 := [.int q8]) dX12_stable_71 ll_X12_406 sh_401 (by decide) rfl (ctX12_wouldHave  hq8) rfl (Nat.le_of_ble_eq_true rfl) (Nat.le_of_ble_eq_true rfl) (go_Z_up w _) rfl rfl ?_
            refine go_iload_n dX12_stable_74 2 rfl ?_
            refine go_icmp_ne 85 dX12_stable_75 (by decide) (fun hc => ?_) (fun hc => ?_)
            · have h := go_ifn hc h
              refine go_iinc (v := (v4 + 1)) dX12_stable_85 4 rfl rfl (by decide) rfl ?_
              show Go w 4 0 0 mtX12_stable 88 [(4, .int (v4 + 1)), (0, .ref 401), (1, .int a0), (2, .int a1), (3, .int v3)] [] (go_mk tx q2.2) (go_Z w Q)
              refine go_goto 15 dX12_stable_88 (by decide) ?_
              cases h
              have hK : Go w 4 0 0 mtX12_stable 15 [(0, .ref 401), (1, .int a0), (2, .int a1), (3, .int v3), (4, .int (v4 + 1))] [] (go_mk tx q2.2) (go_Z w Q) := hK
              exact go_pick [1, 2, 3, 4, 0] rfl hK
            · have h := go_ifp hc h
              refine go_pick [0, 1, 2, 4] rfl ?_
              exact jqX12_stable_78_15 w tx Q q2.2 a0 a1 v4    _ h hK
      · have h := go_ifp hc h
        refine go_goto 85 dX12_stable_44 (by decide) ?_
        refine go_iinc (v := (v4 + 1)) dX12_stable_85 4 rfl rfl (by decide) rfl ?_
        show Go w 4 0 0 mtX12_stable 88 [(4, .int (v4 + 1)), (0, .ref 401), (1, .int a0), (2, .int a1), (3, .int v3)] [] (go_mk tx q2.2) (go_Z w Q)
        refine go_goto 15 dX12_stable_88 (by decide) ?_
        cases h
        have hK : Go w 4 0 0 mtX12_stable 15 [(0, .ref 401), (1, .int a0), (2, .int a1), (3, .int v3), (4, .int (v4 + 1))] [] (go_mk tx q2.2) (go_Z w Q) := hK
        exact go_pick [1, 2, 3, 4, 0] rfl hK
set_option maxRecDepth 20000 in
set_option maxHeartbeats 4000000 in
theorem cmX12_stable (w : go_Wd) (tx : Nat) (Q : Option Value → go_M → Prop) (μ : PM) (a0 : Int32) (a1 : Int32) (out : Int32 × PM) (h : fX12_stable μ a0 a1 = some out) (hK : Q (some (.int out.1)) (go_mk tx out.2)) : Go w 4 0 0 mtX12_stable 0 [(0, .ref 401), (1, .int a0), (2, .int a1)] [] (go_mk tx μ) (go_Z w Q) := by
  unfold fX12_stable at h
  refine go_aload_n dX12_stable_0 0 rfl ?_
  refine go_iload_n dX12_stable_1 1 rfl ?_
  refine pp_callV (as := [.int a0]) (st := []) (rv := (some (.int (fX12_isFamily μ a0)))) (μ1 := μ) (st1 := [.int (fX12_isFamily μ a0)]) dX12_stable_2 ll_X12_351 sh_401 (by decide) rfl (ctX12_isFamily  rfl) rfl (Nat.le_of_ble_eq_true rfl) (Nat.le_of_ble_eq_true rfl) (go_Z_up w _) rfl rfl ?_
  refine go_if_ne 10 dX12_stable_5 (by decide) (fun hc => ?_) (fun hc => ?_)
  · have h := go_ifn hc h
    refine go_iconst (v := (-1)) dX12_stable_10 (by decide) ?_
    refine go_istore_n dX12_stable_11 (by decide) rfl ?_
    show Go w 4 0 0 mtX12_stable 12 [(3, .int (-1)), (0, .ref 401), (1, .int a0), (2, .int a1)] [] (go_mk tx μ) (go_Z w Q)
    refine go_iconst (v := 0) dX12_stable_12 (by decide) ?_
    refine go_istore dX12_stable_13 (by decide) rfl ?_
    show Go w 4 0 0 mtX12_stable 15 [(4, .int 0), (3, .int (-1)), (0, .ref 401), (1, .int a0), (2, .int a1)] [] (go_mk tx μ) (go_Z w Q)
    obtain ⟨ρ9, hρ9, h⟩ := go_bind h
    refine go_pick [2, 3, 4, 1, 0] rfl ?_
    refine go_lp (G := ggX12_stable_15 w tx Q a0 a1 ) (E := eeX12_stable_15 w tx Q a0 a1 ) (fun s out h hK => lqX12_stable_15 w tx Q a0 a1   s.1 s.2.1 s.2.2 out h hK) go_fuel ((-1), 0, μ) ρ9 hρ9 ?_
    cases h
    exact hK
  · have h := go_ifp hc h
    refine go_iconst (v := (-1)) dX12_stable_8 (by decide) ?_
    cases h
    exact go_iret dX12_stable_9 rfl hK
theorem ctX12_stable {w : go_Wd} {tx : Nat} {μ : PM} {a0 : Int32} {a1 : Int32} {r : Int32} {μ1 : PM}  (h : fX12_stable μ a0 a1 = some (r, μ1)) : Ct w 4 0 0 mtX12_stable [.ref 401, .int a0, .int a1] (go_mk tx μ) (fun r' M' => r' = some (.int r) ∧ M' = go_mk tx μ1) :=
  go_entry rfl (by decide) (Nat.le_of_ble_eq_true rfl) (cmX12_stable w tx _ μ a0 a1 _ h ⟨rfl, rfl⟩)
def lbX12_give_25 (μ : PM) (a0 : Int32) (a1 : Int32)  (v3 : Int32) : Option ((Int32) ⊕ ((Unit) ⊕ (Int32 × PM))) :=
  (if 5 ≤ v3 then some (.inr (.inl ())) else (if v3 = a0 then some (.inl (v3 + 1)) else (if a1 = (-1) then some (.inl (v3 + 1)) else go_chk (112 + v3) 1792 <| (if (μ.1 402 ((112 + v3) : Int32).toNatClampNeg) = a1 then some (.inr (.inr ((0, μ)))) else some (.inl (v3 + 1))))))
def jjX12_give_23 (μ : PM) (a0 : Int32) (a1 : Int32)   : Option (Int32 × PM) :=
  ((lp (fun s => lbX12_give_25 μ a0 a1 s) go_fuel 0).bind fun ρ2 => go_cs ρ2 (fun e3 => go_chk (112 + a0) 1792 <| go_let (pm_wi μ 402 ((112 + a0) : Int32).toNatClampNeg a1) fun μ4 => some ((1, μ4))) (fun y => some y))
def fX12_give (μ : PM) (a0 : Int32) (a1 : Int32) : Option (Int32 × PM) :=
  (if (fX12_isFamily μ a0) = 0 then some ((0, μ)) else (if a1 = (-1) then jjX12_give_23 μ a0 a1 else (if (fX12_isName μ a1) = 0 then some ((0, μ)) else jjX12_give_23 μ a0 a1)))
def ggX12_give_25 (w : go_Wd) (tx : Nat) (Q : Option Value → go_M → Prop) (μ : PM) (a0 : Int32) (a1 : Int32)  (s : Int32) : Prop := Go w 2 0 0 mtX12_give 25 [(0, .ref 401), (1, .int a0), (2, .int a1), (3, .int s)] [] (go_mk tx μ) (go_Z w Q)
def eeX12_give_25 (w : go_Wd) (tx : Nat) (Q : Option Value → go_M → Prop) (μ : PM) (a0 : Int32) (a1 : Int32)  : (Unit) ⊕ (Int32 × PM) → Prop
  | .inl e => Go w 2 0 0 mtX12_give 61 [(0, .ref 401), (1, .int a0), (2, .int a1)] [] (go_mk tx μ) (go_Z w Q)
  | .inr y => Q (some (.int y.1)) (go_mk tx y.2)
set_option maxRecDepth 20000 in
set_option maxHeartbeats 4000000 in
theorem lqX12_give_25 (w : go_Wd) (tx : Nat) (Q : Option Value → go_M → Prop) (μ : PM) (a0 : Int32) (a1 : Int32)   (v3 : Int32) (out : (Int32) ⊕ ((Unit) ⊕ (Int32 × PM))) (h : lbX12_give_25 μ a0 a1  v3 = some out) (hK : go_out (ggX12_give_25 w tx Q μ a0 a1 ) (eeX12_give_25 w tx Q μ a0 a1 ) out) : ggX12_give_25 w tx Q μ a0 a1  v3 := by
  unfold lbX12_give_25 at h
  show Go w 2 0 0 mtX12_give 25 [(0, .ref 401), (1, .int a0), (2, .int a1), (3, .int v3)] [] (go_mk tx μ) (go_Z w Q)
  refine go_iload_n dX12_give_25 3 rfl ?_
  refine go_iconst (v := 5) dX12_give_26 (by decide) ?_
  refine go_icmp_ge 61 dX12_give_27 (by decide) (fun hc => ?_) (fun hc => ?_)
  · have h := go_ifp hc h
    cases h
    have hK : Go w 2 0 0 mtX12_give 61 [(0, .ref 401), (1, .int a0), (2, .int a1)] [] (go_mk tx μ) (go_Z w Q) := hK
    exact go_pick [0, 1, 2] rfl hK
  · have h := go_ifn hc h
    refine go_iload_n dX12_give_30 3 rfl ?_
    refine go_iload_n dX12_give_31 1 rfl ?_
    refine go_icmp_eq 55 dX12_give_32 (by decide) (fun hc => ?_) (fun hc => ?_)
    · have h := go_ifp hc h
      refine go_iinc (v := (v3 + 1)) dX12_give_55 3 rfl rfl (by decide) rfl ?_
      show Go w 2 0 0 mtX12_give 58 [(3, .int (v3 + 1)), (0, .ref 401), (1, .int a0), (2, .int a1)] [] (go_mk tx μ) (go_Z w Q)
      refine go_goto 25 dX12_give_58 (by decide) ?_
      cases h
      have hK : Go w 2 0 0 mtX12_give 25 [(0, .ref 401), (1, .int a0), (2, .int a1), (3, .int (v3 + 1))] [] (go_mk tx μ) (go_Z w Q) := hK
      exact go_pick [1, 2, 3, 0] rfl hK
    · have h := go_ifn hc h
      refine go_iload_n dX12_give_35 2 rfl ?_
      refine go_iconst (v := (-1)) dX12_give_36 (by decide) ?_
      refine go_icmp_eq 55 dX12_give_37 (by decide) (fun hc => ?_) (fun hc => ?_)
      · have h := go_ifp hc h
        refine go_iinc (v := (v3 + 1)) dX12_give_55 3 rfl rfl (by decide) rfl ?_
        show Go w 2 0 0 mtX12_give 58 [(3, .int (v3 + 1)), (0, .ref 401), (1, .int a0), (2, .int a1)] [] (go_mk tx μ) (go_Z w Q)
        refine go_goto 25 dX12_give_58 (by decide) ?_
        cases h
        have hK : Go w 2 0 0 mtX12_give 25 [(0, .ref 401), (1, .int a0), (2, .int a1), (3, .int (v3 + 1))] [] (go_mk tx μ) (go_Z w Q) := hK
        exact go_pick [1, 2, 3, 0] rfl hK
      · have h := go_ifn hc h
        refine go_aload_n dX12_give_40 0 rfl ?_
        refine pp_getR dX12_give_41 ff_X12_7 (Or.inr ⟨_, rfl⟩) sh_401 rf_401_0 ?_
        refine go_bipush (v := 112) dX12_give_44 (by decide) ?_
        refine go_iload_n dX12_give_46 3 rfl ?_
        refine go_iadd dX12_give_47 ?_
        obtain ⟨hz1, h⟩ := go_chk_e h
        refine pp_ild dX12_give_48 sh_402 hz1 ?_
        refine go_iload_n dX12_give_49 2 rfl ?_
        refine go_icmp_ne 55 dX12_give_50 (by decide) (fun hc => ?_) (fun hc => ?_)
        · have h := go_ifn hc h
          refine go_iinc (v := (v3 + 1)) dX12_give_55 3 rfl rfl (by decide) rfl ?_
          show Go w 2 0 0 mtX12_give 58 [(3, .int (v3 + 1)), (0, .ref 401), (1, .int a0), (2, .int a1)] [] (go_mk tx μ) (go_Z w Q)
          refine go_goto 25 dX12_give_58 (by decide) ?_
          cases h
          have hK : Go w 2 0 0 mtX12_give 25 [(0, .ref 401), (1, .int a0), (2, .int a1), (3, .int (v3 + 1))] [] (go_mk tx μ) (go_Z w Q) := hK
          exact go_pick [1, 2, 3, 0] rfl hK
        · have h := go_ifp hc h
          refine go_iconst (v := 0) dX12_give_53 (by decide) ?_
          cases h
          exact go_zret dX12_give_54 rfl (Or.inl rfl) hK
set_option maxRecDepth 20000 in
set_option maxHeartbeats 4000000 in
theorem jqX12_give_23 (w : go_Wd) (tx : Nat) (Q : Option Value → go_M → Prop) (μ : PM) (a0 : Int32) (a1 : Int32)     (out : Int32 × PM) (h : jjX12_give_23 μ a0 a1   = some out) (hK : Q (some (.int out.1)) (go_mk tx out.2)) : Go w 2 0 0 mtX12_give 23 [(0, .ref 401), (1, .int a0), (2, .int a1)] [] (go_mk tx μ) (go_Z w Q) := by
  unfold jjX12_give_23 at h
  refine go_iconst (v := 0) dX12_give_23 (by decide) ?_
  refine go_istore_n dX12_give_24 (by decide) rfl ?_
  show Go w 2 0 0 mtX12_give 25 [(3, .int 0), (0, .ref 401), (1, .int a0), (2, .int a1)] [] (go_mk tx μ) (go_Z w Q)
  obtain ⟨ρ2, hρ2, h⟩ := go_bind h
  refine go_pick [1, 2, 3, 0] rfl ?_
  refine go_lp (G := ggX12_give_25 w tx Q μ a0 a1 ) (E := eeX12_give_25 w tx Q μ a0 a1 ) (fun s out h hK => lqX12_give_25 w tx Q μ a0 a1   s out h hK) go_fuel 0 ρ2 hρ2 ?_
  rcases ρ2 with e3 | y
  · have h := go_csl h
    show Go w 2 0 0 mtX12_give 61 [(0, .ref 401), (1, .int a0), (2, .int a1)] [] (go_mk tx μ) (go_Z w Q)
    refine go_aload_n dX12_give_61 0 rfl ?_
    refine pp_getR dX12_give_62 ff_X12_7 (Or.inr ⟨_, rfl⟩) sh_401 rf_401_0 ?_
    refine go_bipush (v := 112) dX12_give_65 (by decide) ?_
    refine go_iload_n dX12_give_67 1 rfl ?_
    refine go_iadd dX12_give_68 ?_
    refine go_iload_n dX12_give_69 2 rfl ?_
    obtain ⟨hz5, h⟩ := go_chk_e h
    obtain ⟨μ4, hμ4, h⟩ := go_let_e h
    refine pp_ist dX12_give_70 sh_402 hz5 hμ4 ?_
    refine go_iconst (v := 1) dX12_give_71 (by decide) ?_
    cases h
    exact go_zret dX12_give_72 rfl (Or.inr rfl) hK
  · have h := go_csr h
    cases h
    exact hK
set_option maxRecDepth 20000 in
set_option maxHeartbeats 4000000 in
theorem cmX12_give (w : go_Wd) (tx : Nat) (Q : Option Value → go_M → Prop) (μ : PM) (a0 : Int32) (a1 : Int32) (out : Int32 × PM) (h : fX12_give μ a0 a1 = some out) (hK : Q (some (.int out.1)) (go_mk tx out.2)) : Go w 2 0 0 mtX12_give 0 [(0, .ref 401), (1, .int a0), (2, .int a1)] [] (go_mk tx μ) (go_Z w Q) := by
  unfold fX12_give at h
  refine go_aload_n dX12_give_0 0 rfl ?_
  refine go_iload_n dX12_give_1 1 rfl ?_
  refine pp_callV (as := [.int a0]) (st := []) (rv := (some (.int (fX12_isFamily μ a0)))) (μ1 := μ) (st1 := [.int (fX12_isFamily μ a0)]) dX12_give_2 ll_X12_351 sh_401 (by decide) rfl (ctX12_isFamily  rfl) rfl (Nat.le_of_ble_eq_true rfl) (Nat.le_of_ble_eq_true rfl) (go_Z_up w _) rfl rfl ?_
  refine go_if_eq 21 dX12_give_5 (by decide) (fun hc => ?_) (fun hc => ?_)
  · have h := go_ifp hc h
    refine go_iconst (v := 0) dX12_give_21 (by decide) ?_
    cases h
    exact go_zret dX12_give_22 rfl (Or.inl rfl) hK
  · have h := go_ifn hc h
    refine go_iload_n dX12_give_8 2 rfl ?_
    refine go_iconst (v := (-1)) dX12_give_9 (by decide) ?_
    refine go_icmp_eq 23 dX12_give_10 (by decide) (fun hc => ?_) (fun hc => ?_)
    · have h := go_ifp hc h
      refine go_pick [0, 1, 2] rfl ?_
      exact jqX12_give_23 w tx Q μ a0 a1     _ h hK
    · have h := go_ifn hc h
      refine go_aload_n dX12_give_13 0 rfl ?_
      refine go_iload_n dX12_give_14 2 rfl ?_
      refine pp_callV (as := [.int a1]) (st := []) (rv := (some (.int (fX12_isName μ a1)))) (μ1 := μ) (st1 := [.int (fX12_isName μ a1)]) dX12_give_15 ll_X12_261 sh_401 (by decide) rfl (ctX12_isName  rfl) rfl (Nat.le_of_ble_eq_true rfl) (Nat.le_of_ble_eq_true rfl) (go_Z_up w _) rfl rfl ?_
      refine go_if_ne 23 dX12_give_18 (by decide) (fun hc => ?_) (fun hc => ?_)
      · have h := go_ifn hc h
        refine go_pick [0, 1, 2] rfl ?_
        exact jqX12_give_23 w tx Q μ a0 a1     _ h hK
      · have h := go_ifp hc h
        refine go_iconst (v := 0) dX12_give_21 (by decide) ?_
        cases h
        exact go_zret dX12_give_22 rfl (Or.inl rfl) hK
theorem ctX12_give {w : go_Wd} {tx : Nat} {μ : PM} {a0 : Int32} {a1 : Int32} {r : Int32} {μ1 : PM}  (h : fX12_give μ a0 a1 = some (r, μ1)) : Ct w 2 0 0 mtX12_give [.ref 401, .int a0, .int a1] (go_mk tx μ) (fun r' M' => r' = some (.int r) ∧ M' = go_mk tx μ1) :=
  go_entry rfl (by decide) (Nat.le_of_ble_eq_true rfl) (cmX12_give w tx _ μ a0 a1 _ h ⟨rfl, rfl⟩)
def lbX12_rests_2   (v1 : Int32) (μ : PM) : Option ((Int32 × PM) ⊕ ((PM) ⊕ (Int32 × PM))) :=
  (if (μ.1 402 1) ≤ v1 then some (.inr (.inl μ)) else go_chk (112 + v1) 1792 <| go_chk v1 5 <| go_let (pm_wi μ 411 v1.toNatClampNeg (μ.1 402 ((112 + v1) : Int32).toNatClampNeg)) fun μ2 => some (.inl ((v1 + 1), μ2)))
def fX12_rests (μ : PM)  : Option (Int32 × PM) :=
  ((lp (fun s => lbX12_rests_2 s.1 s.2) go_fuel (0, μ)).bind fun ρ4 => go_cs ρ4 (fun e5 => (fX12_layWith e5).bind fun q6 => (if q6.1 = 0 then some ((0, q6.2)) else (fX12_pairsThatWould q6.2).bind fun q7 => some ((q7, q6.2)))) (fun y => some y))
def ggX12_rests_2 (w : go_Wd) (tx : Nat) (Q : Option Value → go_M → Prop)   (s : Int32 × PM) : Prop := Go w 3 0 0 mtX12_rests 2 [(0, .ref 401), (1, .int s.1)] [] (go_mk tx s.2) (go_Z w Q)
def eeX12_rests_2 (w : go_Wd) (tx : Nat) (Q : Option Value → go_M → Prop)   : (PM) ⊕ (Int32 × PM) → Prop
  | .inl e => Go w 3 0 0 mtX12_rests 33 [(0, .ref 401)] [] (go_mk tx e) (go_Z w Q)
  | .inr y => Q (some (.int y.1)) (go_mk tx y.2)
set_option maxRecDepth 20000 in
set_option maxHeartbeats 4000000 in
theorem lqX12_rests_2 (w : go_Wd) (tx : Nat) (Q : Option Value → go_M → Prop)    (v1 : Int32) (μ : PM) (out : (Int32 × PM) ⊕ ((PM) ⊕ (Int32 × PM))) (h : lbX12_rests_2  v1 μ = some out) (hK : go_out (ggX12_rests_2 w tx Q  ) (eeX12_rests_2 w tx Q  ) out) : ggX12_rests_2 w tx Q   (v1, μ) := by
  unfold lbX12_rests_2 at h
  show Go w 3 0 0 mtX12_rests 2 [(0, .ref 401), (1, .int v1)] [] (go_mk tx μ) (go_Z w Q)
  refine go_iload_n dX12_rests_2 1 rfl ?_
  refine go_aload_n dX12_rests_3 0 rfl ?_
  refine pp_getR dX12_rests_4 ff_X12_7 (Or.inr ⟨_, rfl⟩) sh_401 rf_401_0 ?_
  refine go_iconst (v := 1) dX12_rests_7 (by decide) ?_
  refine pp_ildc (q := 1) dX12_rests_8 sh_402 (by decide) ?_
  refine go_icmp_ge 33 dX12_rests_9 (by decide) (fun hc => ?_) (fun hc => ?_)
  · have h := go_ifp hc h
    cases h
    have hK : Go w 3 0 0 mtX12_rests 33 [(0, .ref 401)] [] (go_mk tx μ) (go_Z w Q) := hK
    exact go_pick [0] rfl hK
  · have h := go_ifn hc h
    refine go_aload_n dX12_rests_12 0 rfl ?_
    refine pp_getR dX12_rests_13 ff_X12_50 (Or.inr ⟨_, rfl⟩) sh_401 rf_401_26 ?_
    refine go_iload_n dX12_rests_16 1 rfl ?_
    refine go_aload_n dX12_rests_17 0 rfl ?_
    refine pp_getR dX12_rests_18 ff_X12_7 (Or.inr ⟨_, rfl⟩) sh_401 rf_401_0 ?_
    refine go_bipush (v := 112) dX12_rests_21 (by decide) ?_
    refine go_iload_n dX12_rests_23 1 rfl ?_
    refine go_iadd dX12_rests_24 ?_
    obtain ⟨hz1, h⟩ := go_chk_e h
    refine pp_ild dX12_rests_25 sh_402 hz1 ?_
    obtain ⟨hz3, h⟩ := go_chk_e h
    obtain ⟨μ2, hμ2, h⟩ := go_let_e h
    refine pp_ist dX12_rests_26 sh_411 hz3 hμ2 ?_
    refine go_iinc (v := (v1 + 1)) dX12_rests_27 1 rfl rfl (by decide) rfl ?_
    show Go w 3 0 0 mtX12_rests 30 [(1, .int (v1 + 1)), (0, .ref 401)] [] (go_mk tx μ2) (go_Z w Q)
    refine go_goto 2 dX12_rests_30 (by decide) ?_
    cases h
    have hK : Go w 3 0 0 mtX12_rests 2 [(0, .ref 401), (1, .int (v1 + 1))] [] (go_mk tx μ2) (go_Z w Q) := hK
    exact go_pick [1, 0] rfl hK
set_option maxRecDepth 20000 in
set_option maxHeartbeats 4000000 in
theorem cmX12_rests (w : go_Wd) (tx : Nat) (Q : Option Value → go_M → Prop) (μ : PM)  (out : Int32 × PM) (h : fX12_rests μ = some out) (hK : Q (some (.int out.1)) (go_mk tx out.2)) : Go w 3 0 0 mtX12_rests 0 [(0, .ref 401)] [] (go_mk tx μ) (go_Z w Q) := by
  unfold fX12_rests at h
  refine go_iconst (v := 0) dX12_rests_0 (by decide) ?_
  refine go_istore_n dX12_rests_1 (by decide) rfl ?_
  show Go w 3 0 0 mtX12_rests 2 [(1, .int 0), (0, .ref 401)] [] (go_mk tx μ) (go_Z w Q)
  obtain ⟨ρ4, hρ4, h⟩ := go_bind h
  refine go_pick [1, 0] rfl ?_
  refine go_lp (G := ggX12_rests_2 w tx Q  ) (E := eeX12_rests_2 w tx Q  ) (fun s out h hK => lqX12_rests_2 w tx Q    s.1 s.2 out h hK) go_fuel (0, μ) ρ4 hρ4 ?_
  rcases ρ4 with e5 | y
  · have h := go_csl h
    show Go w 3 0 0 mtX12_rests 33 [(0, .ref 401)] [] (go_mk tx e5) (go_Z w Q)
    refine go_aload_n dX12_rests_33 0 rfl ?_
    obtain ⟨q6, hq6, h⟩ := go_bind h
    refine pp_callV (as := []) (st := []) (rv := (some (.int q6.1))) (μ1 := q6.2) (st1 := [.int q6.1]) dX12_rests_34 ll_X12_412 sh_401 (by decide) rfl (ctX12_layWith  hq6) rfl (Nat.le_of_ble_eq_true rfl) (Nat.le_of_ble_eq_true rfl) (go_Z_up w _) rfl rfl ?_
    refine go_if_eq 47 dX12_rests_37 (by decide) (fun hc => ?_) (fun hc => ?_)
    · have h := go_ifp hc h
      refine go_iconst (v := 0) dX12_rests_47 (by decide) ?_
      cases h
      exact go_iret dX12_rests_48 rfl hK
    · have h := go_ifn hc h
      refine go_aload_n dX12_rests_40 0 rfl ?_
      obtain ⟨q7, hq7, h⟩ := go_bind h
      refine pp_callV (as := []) (st := []) (rv := (some (.int q7))) (μ1 := q6.2) (st1 := [.int q7]) dX12_rests_41 ll_X12_415 sh_401 (by decide) rfl (ctX12_pairsThatWould  hq7) rfl (Nat.le_of_ble_eq_true rfl) (Nat.le_of_ble_eq_true rfl) (go_Z_up w _) rfl rfl ?_
      refine go_goto 48 dX12_rests_44 (by decide) ?_
      cases h
      exact go_iret dX12_rests_48 rfl hK
  · have h := go_csr h
    cases h
    exact hK
theorem ctX12_rests {w : go_Wd} {tx : Nat} {μ : PM}  {r : Int32} {μ1 : PM}  (h : fX12_rests μ = some (r, μ1)) : Ct w 3 0 0 mtX12_rests [.ref 401] (go_mk tx μ) (fun r' M' => r' = some (.int r) ∧ M' = go_mk tx μ1) :=
  go_entry rfl (by decide) (Nat.le_of_ble_eq_true rfl) (cmX12_rests w tx _ μ  _ h ⟨rfl, rfl⟩)
def jjX12_gladdest_45_14 (μ : PM) (a0 : Int32) (v2 : Int32) (v3 : Int32) (s0 : Int32) (s1 : Int32) : Option ((Int32 × Int32) ⊕ (Int32)) :=
  (if s0 ≤ s1 then some (.inl (v2, (v3 + 1))) else some (.inl (v3, (v3 + 1))))
def lbX12_gladdest_14 (μ : PM) (a0 : Int32)  (v2 : Int32) (v3 : Int32) : Option ((Int32 × Int32) ⊕ (Int32)) :=
  (if (μ.1 402 0) ≤ v3 then some (.inr (v2)) else (fX12_wantOf μ a0 v3).bind fun q1 => (if v2 = (-1) then jjX12_gladdest_45_14 μ a0 v2 v3 q1 0 else (fX12_wantOf μ a0 v2).bind fun q2 => jjX12_gladdest_45_14 μ a0 v2 v3 q1 q2))
def fX12_gladdest (μ : PM) (a0 : Int32) : Option (Int32) :=
  (if (fX12_isFamily μ a0) = 0 then some ((-1)) else ((lp (fun s => lbX12_gladdest_14 μ a0 s.1 s.2) go_fuel ((-1), 0)).bind fun ρ3 => some ρ3))
def ggX12_gladdest_14 (w : go_Wd) (tx : Nat) (Q : Option Value → go_M → Prop) (μ : PM) (a0 : Int32)  (s : Int32 × Int32) : Prop := Go w 2 0 0 mtX12_gladdest 14 [(0, .ref 401), (1, .int a0), (2, .int s.1), (3, .int s.2)] [] (go_mk tx μ) (go_Z w Q)
def eeX12_gladdest_14 (w : go_Wd) (tx : Nat) (Q : Option Value → go_M → Prop) (μ : PM) (a0 : Int32)  (y : Int32) : Prop := Q (some (.int y)) (go_mk tx μ)
set_option maxRecDepth 20000 in
set_option maxHeartbeats 4000000 in
theorem jqX12_gladdest_45_14 (w : go_Wd) (tx : Nat) (Q : Option Value → go_M → Prop) (μ : PM) (a0 : Int32) (v2 : Int32) (v3 : Int32)  (s0 : Int32) (s1 : Int32)  (out : (Int32 × Int32) ⊕ (Int32)) (h : jjX12_gladdest_45_14 μ a0 v2 v3 s0 s1 = some out) (hK : go_out (ggX12_gladdest_14 w tx Q μ a0 ) (eeX12_gladdest_14 w tx Q μ a0 ) out) : Go w 2 0 0 mtX12_gladdest 45 [(0, .ref 401), (1, .int a0), (2, .int v2), (3, .int v3)] [.int s1, .int s0] (go_mk tx μ) (go_Z w Q) := by
  unfold jjX12_gladdest_45_14 at h
  refine go_icmp_le 50 dX12_gladdest_45 (by decide) (fun hc => ?_) (fun hc => ?_)
  · have h := go_ifp hc h
    refine go_iinc (v := (v3 + 1)) dX12_gladdest_50 3 rfl rfl (by decide) rfl ?_
    show Go w 2 0 0 mtX12_gladdest 53 [(3, .int (v3 + 1)), (0, .ref 401), (1, .int a0), (2, .int v2)] [] (go_mk tx μ) (go_Z w Q)
    refine go_goto 14 dX12_gladdest_53 (by decide) ?_
    cases h
    have hK : Go w 2 0 0 mtX12_gladdest 14 [(0, .ref 401), (1, .int a0), (2, .int v2), (3, .int (v3 + 1))] [] (go_mk tx μ) (go_Z w Q) := hK
    exact go_pick [1, 2, 3, 0] rfl hK
  · have h := go_ifn hc h
    refine go_iload_n dX12_gladdest_48 3 rfl ?_
    refine go_istore_n dX12_gladdest_49 (by decide) rfl ?_
    show Go w 2 0 0 mtX12_gladdest 50 [(2, .int v3), (0, .ref 401), (1, .int a0), (3, .int v3)] [] (go_mk tx μ) (go_Z w Q)
    refine go_iinc (v := (v3 + 1)) dX12_gladdest_50 3 rfl rfl (by decide) rfl ?_
    show Go w 2 0 0 mtX12_gladdest 53 [(3, .int (v3 + 1)), (2, .int v3), (0, .ref 401), (1, .int a0)] [] (go_mk tx μ) (go_Z w Q)
    refine go_goto 14 dX12_gladdest_53 (by decide) ?_
    cases h
    have hK : Go w 2 0 0 mtX12_gladdest 14 [(0, .ref 401), (1, .int a0), (2, .int v3), (3, .int (v3 + 1))] [] (go_mk tx μ) (go_Z w Q) := hK
    exact go_pick [2, 3, 1, 0] rfl hK
set_option maxRecDepth 20000 in
set_option maxHeartbeats 4000000 in
theorem lqX12_gladdest_14 (w : go_Wd) (tx : Nat) (Q : Option Value → go_M → Prop) (μ : PM) (a0 : Int32)   (v2 : Int32) (v3 : Int32) (out : (Int32 × Int32) ⊕ (Int32)) (h : lbX12_gladdest_14 μ a0  v2 v3 = some out) (hK : go_out (ggX12_gladdest_14 w tx Q μ a0 ) (eeX12_gladdest_14 w tx Q μ a0 ) out) : ggX12_gladdest_14 w tx Q μ a0  (v2, v3) := by
  unfold lbX12_gladdest_14 at h
  show Go w 2 0 0 mtX12_gladdest 14 [(0, .ref 401), (1, .int a0), (2, .int v2), (3, .int v3)] [] (go_mk tx μ) (go_Z w Q)
  refine go_iload_n dX12_gladdest_14 3 rfl ?_
  refine go_aload_n dX12_gladdest_15 0 rfl ?_
  refine pp_getR dX12_gladdest_16 ff_X12_7 (Or.inr ⟨_, rfl⟩) sh_401 rf_401_0 ?_
  refine go_iconst (v := 0) dX12_gladdest_19 (by decide) ?_
  refine pp_ildc (q := 0) dX12_gladdest_20 sh_402 (by decide) ?_
  refine go_icmp_ge 56 dX12_gladdest_21 (by decide) (fun hc => ?_) (fun hc => ?_)
  · have h := go_ifp hc h
    refine go_iload_n dX12_gladdest_56 2 rfl ?_
    cases h
    exact go_iret dX12_gladdest_57 rfl hK
  · have h := go_ifn hc h
    refine go_aload_n dX12_gladdest_24 0 rfl ?_
    refine go_iload_n dX12_gladdest_25 1 rfl ?_
    refine go_iload_n dX12_gladdest_26 3 rfl ?_
    obtain ⟨q1, hq1, h⟩ := go_bind h
    refine pp_callV (as := [.int a0, .int v3]) (st := []) (rv := (some (.int q1))) (μ1 := μ) (st1 := [.int q1]) dX12_gladdest_27 ll_X12_403 sh_401 (by decide) rfl (ctX12_wantOf  hq1) rfl (Nat.le_of_ble_eq_true rfl) (Nat.le_of_ble_eq_true rfl) (go_Z_up w _) rfl rfl ?_
    refine go_iload_n dX12_gladdest_30 2 rfl ?_
    refine go_iconst (v := (-1)) dX12_gladdest_31 (by decide) ?_
    refine go_icmp_ne 39 dX12_gladdest_32 (by decide) (fun hc => ?_) (fun hc => ?_)
    · have h := go_ifn hc h
      refine go_aload_n dX12_gladdest_39 0 rfl ?_
      refine go_iload_n dX12_gladdest_40 1 rfl ?_
      refine go_iload_n dX12_gladdest_41 2 rfl ?_
      obtain ⟨q2, hq2, h⟩ := go_bind h
      refine pp_callV (as := [.int a0, .int v2]) (st := [.int q1]) (rv := (some (.int q2))) (μ1 := μ) (st1 := [.int q2, .int q1]) dX12_gladdest_42 ll_X12_403 sh_401 (by decide) rfl (ctX12_wantOf  hq2) rfl (Nat.le_of_ble_eq_true rfl) (Nat.le_of_ble_eq_true rfl) (go_Z_up w _) rfl rfl ?_
      refine go_pick [0, 1, 2, 3] rfl ?_
      exact jqX12_gladdest_45_14 w tx Q μ a0 v2 v3  q1 q2  _ h hK
    · have h := go_ifp hc h
      refine go_iconst (v := 0) dX12_gladdest_35 (by decide) ?_
      refine go_goto 45 dX12_gladdest_36 (by decide) ?_
      refine go_pick [0, 1, 2, 3] rfl ?_
      exact jqX12_gladdest_45_14 w tx Q μ a0 v2 v3  q1 0  _ h hK
set_option maxRecDepth 20000 in
set_option maxHeartbeats 4000000 in
theorem cmX12_gladdest (w : go_Wd) (tx : Nat) (Q : Option Value → go_M → Prop) (μ : PM) (a0 : Int32) (out : Int32) (h : fX12_gladdest μ a0 = some out) (hK : Q (some (.int out)) (go_mk tx μ)) : Go w 2 0 0 mtX12_gladdest 0 [(0, .ref 401), (1, .int a0)] [] (go_mk tx μ) (go_Z w Q) := by
  unfold fX12_gladdest at h
  refine go_aload_n dX12_gladdest_0 0 rfl ?_
  refine go_iload_n dX12_gladdest_1 1 rfl ?_
  refine pp_callV (as := [.int a0]) (st := []) (rv := (some (.int (fX12_isFamily μ a0)))) (μ1 := μ) (st1 := [.int (fX12_isFamily μ a0)]) dX12_gladdest_2 ll_X12_351 sh_401 (by decide) rfl (ctX12_isFamily  rfl) rfl (Nat.le_of_ble_eq_true rfl) (Nat.le_of_ble_eq_true rfl) (go_Z_up w _) rfl rfl ?_
  refine go_if_ne 10 dX12_gladdest_5 (by decide) (fun hc => ?_) (fun hc => ?_)
  · have h := go_ifn hc h
    refine go_iconst (v := (-1)) dX12_gladdest_10 (by decide) ?_
    refine go_istore_n dX12_gladdest_11 (by decide) rfl ?_
    show Go w 2 0 0 mtX12_gladdest 12 [(2, .int (-1)), (0, .ref 401), (1, .int a0)] [] (go_mk tx μ) (go_Z w Q)
    refine go_iconst (v := 0) dX12_gladdest_12 (by decide) ?_
    refine go_istore_n dX12_gladdest_13 (by decide) rfl ?_
    show Go w 2 0 0 mtX12_gladdest 14 [(3, .int 0), (2, .int (-1)), (0, .ref 401), (1, .int a0)] [] (go_mk tx μ) (go_Z w Q)
    obtain ⟨ρ3, hρ3, h⟩ := go_bind h
    refine go_pick [2, 3, 1, 0] rfl ?_
    refine go_lp (G := ggX12_gladdest_14 w tx Q μ a0 ) (E := eeX12_gladdest_14 w tx Q μ a0 ) (fun s out h hK => lqX12_gladdest_14 w tx Q μ a0   s.1 s.2 out h hK) go_fuel ((-1), 0) ρ3 hρ3 ?_
    cases h
    exact hK
  · have h := go_ifp hc h
    refine go_iconst (v := (-1)) dX12_gladdest_8 (by decide) ?_
    cases h
    exact go_iret dX12_gladdest_9 rfl hK
theorem ctX12_gladdest {w : go_Wd} {tx : Nat} {μ : PM} {a0 : Int32} {r : Int32}  (h : fX12_gladdest μ a0 = some r) : Ct w 2 0 0 mtX12_gladdest [.ref 401, .int a0] (go_mk tx μ) (fun r' M' => r' = some (.int r) ∧ M' = go_mk tx μ) :=
  go_entry rfl (by decide) (Nat.le_of_ble_eq_true rfl) (cmX12_gladdest w tx _ μ a0 _ h ⟨rfl, rfl⟩)
def lbX12_tens_4 (a0 : Int32)  (v1 : Int64) (v3 : Int32) : Option ((Int64 × Int32) ⊕ (Int64)) :=
  (if a0 ≤ v3 then some (.inr (v1)) else some (.inl ((v1 * 10), (v3 + 1))))
def fX12_tens (a0 : Int32) : Option (Int64) :=
  ((lp (fun s => lbX12_tens_4 a0 s.1 s.2) go_fuel (1, 0)).bind fun ρ1 => some ρ1)
def ggX12_tens_4 (w : go_Wd) (tx : Nat) (Q : Option Value → go_M → Prop) (μ : PM) (a0 : Int32)  (s : Int64 × Int32) : Prop := Go w 0 0 0 mtX12_tens 4 [(0, .int a0), (1, .long s.1), (3, .int s.2)] [] (go_mk tx μ) (go_Z w Q)
def eeX12_tens_4 (w : go_Wd) (tx : Nat) (Q : Option Value → go_M → Prop) (μ : PM) (a0 : Int32)  (y : Int64) : Prop := Q (some (.long y)) (go_mk tx μ)
set_option maxRecDepth 20000 in
set_option maxHeartbeats 4000000 in
theorem lqX12_tens_4 (w : go_Wd) (tx : Nat) (Q : Option Value → go_M → Prop) (μ : PM) (a0 : Int32)   (v1 : Int64) (v3 : Int32) (out : (Int64 × Int32) ⊕ (Int64)) (h : lbX12_tens_4 a0  v1 v3 = some out) (hK : go_out (ggX12_tens_4 w tx Q μ a0 ) (eeX12_tens_4 w tx Q μ a0 ) out) : ggX12_tens_4 w tx Q μ a0  (v1, v3) := by
  unfold lbX12_tens_4 at h
  show Go w 0 0 0 mtX12_tens 4 [(0, .int a0), (1, .long v1), (3, .int v3)] [] (go_mk tx μ) (go_Z w Q)
  refine go_iload_n dX12_tens_4 2 rfl ?_
  refine go_iload_n dX12_tens_5 0 rfl ?_
  refine go_icmp_ge 21 dX12_tens_6 (by decide) (fun hc => ?_) (fun hc => ?_)
  · have h := go_ifp hc h
    refine go_lload_n dX12_tens_21 1 rfl ?_
    cases h
    exact go_lret dX12_tens_22 rfl hK
  · have h := go_ifn hc h
    refine go_lload_n dX12_tens_9 1 rfl ?_
    refine go_ldc2 dX12_tens_10 kl_X12_274 ?_
    refine go_lmul dX12_tens_13 ?_
    refine go_lstore_n dX12_tens_14 (by decide) rfl ?_
    show Go w 0 0 0 mtX12_tens 15 [(1, .long (v1 * 10)), (0, .int a0), (3, .int v3)] [] (go_mk tx μ) (go_Z w Q)
    refine go_iinc (v := (v3 + 1)) dX12_tens_15 2 rfl rfl (by decide) rfl ?_
    show Go w 0 0 0 mtX12_tens 18 [(3, .int (v3 + 1)), (1, .long (v1 * 10)), (0, .int a0)] [] (go_mk tx μ) (go_Z w Q)
    refine go_goto 4 dX12_tens_18 (by decide) ?_
    cases h
    have hK : Go w 0 0 0 mtX12_tens 4 [(0, .int a0), (1, .long (v1 * 10)), (3, .int (v3 + 1))] [] (go_mk tx μ) (go_Z w Q) := hK
    exact go_pick [2, 1, 0] rfl hK
set_option maxRecDepth 20000 in
set_option maxHeartbeats 4000000 in
theorem cmX12_tens (w : go_Wd) (tx : Nat) (Q : Option Value → go_M → Prop) (μ : PM) (a0 : Int32) (out : Int64) (h : fX12_tens a0 = some out) (hK : Q (some (.long out)) (go_mk tx μ)) : Go w 0 0 0 mtX12_tens 0 [(0, .int a0)] [] (go_mk tx μ) (go_Z w Q) := by
  unfold fX12_tens at h
  refine go_lconst (v := 1) dX12_tens_0 (by decide) ?_
  refine go_lstore_n dX12_tens_1 (by decide) rfl ?_
  show Go w 0 0 0 mtX12_tens 2 [(1, .long 1), (0, .int a0)] [] (go_mk tx μ) (go_Z w Q)
  refine go_iconst (v := 0) dX12_tens_2 (by decide) ?_
  refine go_istore_n dX12_tens_3 (by decide) rfl ?_
  show Go w 0 0 0 mtX12_tens 4 [(3, .int 0), (1, .long 1), (0, .int a0)] [] (go_mk tx μ) (go_Z w Q)
  obtain ⟨ρ1, hρ1, h⟩ := go_bind h
  refine go_pick [2, 1, 0] rfl ?_
  refine go_lp (G := ggX12_tens_4 w tx Q μ a0 ) (E := eeX12_tens_4 w tx Q μ a0 ) (fun s out h hK => lqX12_tens_4 w tx Q μ a0   s.1 s.2 out h hK) go_fuel (1, 0) ρ1 hρ1 ?_
  cases h
  exact hK
theorem ctX12_tens {w : go_Wd} {tx : Nat} {μ : PM} {a0 : Int32} {r : Int64}  (h : fX12_tens a0 = some r) : Ct w 0 0 0 mtX12_tens [.int a0] (go_mk tx μ) (fun r' M' => r' = some (.long r) ∧ M' = go_mk tx μ) :=
  go_entry rfl (by decide) (Nat.le_of_ble_eq_true rfl) (cmX12_tens w tx _ μ a0 _ h ⟨rfl, rfl⟩)
def lbX12_divisor_6 (a0 : Int64) (a1 : Int64)  (v4 : Int64) (v6 : Int64) : Option ((Int64 × Int64) ⊕ (Int64)) :=
  (if (lg_cmp v6 0) = 0 then some (.inr (v4)) else go_nzl v6 <| go_let ((jreml v4 v6)) fun x2 => some (.inl (v6, x2)))
def fX12_divisor (a0 : Int64) (a1 : Int64) : Option (Int64) :=
  ((lp (fun s => lbX12_divisor_6 a0 a1 s.1 s.2) go_fuel (a0, a1)).bind fun ρ3 => some ρ3)
def ggX12_divisor_6 (w : go_Wd) (tx : Nat) (Q : Option Value → go_M → Prop) (μ : PM) (a0 : Int64) (a1 : Int64)  (s : Int64 × Int64) : Prop := Go w 0 0 0 mtX12_divisor 6 [(4, .long s.1), (6, .long s.2)] [] (go_mk tx μ) (go_Z w Q)
def eeX12_divisor_6 (w : go_Wd) (tx : Nat) (Q : Option Value → go_M → Prop) (μ : PM) (a0 : Int64) (a1 : Int64)  (y : Int64) : Prop := Q (some (.long y)) (go_mk tx μ)
set_option maxRecDepth 20000 in
set_option maxHeartbeats 4000000 in
theorem lqX12_divisor_6 (w : go_Wd) (tx : Nat) (Q : Option Value → go_M → Prop) (μ : PM) (a0 : Int64) (a1 : Int64)   (v4 : Int64) (v6 : Int64) (out : (Int64 × Int64) ⊕ (Int64)) (h : lbX12_divisor_6 a0 a1  v4 v6 = some out) (hK : go_out (ggX12_divisor_6 w tx Q μ a0 a1 ) (eeX12_divisor_6 w tx Q μ a0 a1 ) out) : ggX12_divisor_6 w tx Q μ a0 a1  (v4, v6) := by
  unfold lbX12_divisor_6 at h
  show Go w 0 0 0 mtX12_divisor 6 [(4, .long v4), (6, .long v6)] [] (go_mk tx μ) (go_Z w Q)
  refine go_lload dX12_divisor_6 1 rfl ?_
  refine go_lconst (v := 0) dX12_divisor_8 (by decide) ?_
  refine go_lcmp dX12_divisor_9 ?_
  refine go_if_eq 31 dX12_divisor_10 (by decide) (fun hc => ?_) (fun hc => ?_)
  · have h := go_ifp hc h
    refine go_lload dX12_divisor_31 0 rfl ?_
    cases h
    exact go_lret dX12_divisor_33 rfl hK
  · have h := go_ifn hc h
    refine go_lload dX12_divisor_13 0 rfl ?_
    refine go_lload dX12_divisor_15 1 rfl ?_
    obtain ⟨hz1, h⟩ := go_nzl_e h
    refine go_lremJ dX12_divisor_17 hz1 ?_
    obtain ⟨x2, hx2, h⟩ := go_let_e h
    refine go_topl hx2 ?_
    refine go_lstore dX12_divisor_18 (by decide) rfl ?_
    show Go w 0 0 0 mtX12_divisor 20 [(8, .long x2), (4, .long v4), (6, .long v6)] [] (go_mk tx μ) (go_Z w Q)
    refine go_lload dX12_divisor_20 2 rfl ?_
    refine go_lstore dX12_divisor_22 (by decide) rfl ?_
    show Go w 0 0 0 mtX12_divisor 24 [(4, .long v6), (8, .long x2), (6, .long v6)] [] (go_mk tx μ) (go_Z w Q)
    refine go_lload dX12_divisor_24 1 rfl ?_
    refine go_lstore dX12_divisor_26 (by decide) rfl ?_
    show Go w 0 0 0 mtX12_divisor 28 [(6, .long x2), (4, .long v6), (8, .long x2)] [] (go_mk tx μ) (go_Z w Q)
    refine go_goto 6 dX12_divisor_28 (by decide) ?_
    cases h
    have hK : Go w 0 0 0 mtX12_divisor 6 [(4, .long v6), (6, .long x2)] [] (go_mk tx μ) (go_Z w Q) := hK
    exact go_pick [1, 0] rfl hK
set_option maxRecDepth 20000 in
set_option maxHeartbeats 4000000 in
theorem cmX12_divisor (w : go_Wd) (tx : Nat) (Q : Option Value → go_M → Prop) (μ : PM) (a0 : Int64) (a1 : Int64) (out : Int64) (h : fX12_divisor a0 a1 = some out) (hK : Q (some (.long out)) (go_mk tx μ)) : Go w 0 0 0 mtX12_divisor 0 [(0, .long a0), (2, .long a1)] [] (go_mk tx μ) (go_Z w Q) := by
  unfold fX12_divisor at h
  refine go_lload_n dX12_divisor_0 0 rfl ?_
  refine go_lstore dX12_divisor_1 (by decide) rfl ?_
  show Go w 0 0 0 mtX12_divisor 3 [(4, .long a0), (0, .long a0), (2, .long a1)] [] (go_mk tx μ) (go_Z w Q)
  refine go_lload_n dX12_divisor_3 2 rfl ?_
  refine go_lstore dX12_divisor_4 (by decide) rfl ?_
  show Go w 0 0 0 mtX12_divisor 6 [(6, .long a1), (4, .long a0), (0, .long a0), (2, .long a1)] [] (go_mk tx μ) (go_Z w Q)
  obtain ⟨ρ3, hρ3, h⟩ := go_bind h
  refine go_pick [1, 0] rfl ?_
  refine go_lp (G := ggX12_divisor_6 w tx Q μ a0 a1 ) (E := eeX12_divisor_6 w tx Q μ a0 a1 ) (fun s out h hK => lqX12_divisor_6 w tx Q μ a0 a1   s.1 s.2 out h hK) go_fuel (a0, a1) ρ3 hρ3 ?_
  cases h
  exact hK
theorem ctX12_divisor {w : go_Wd} {tx : Nat} {μ : PM} {a0 : Int64} {a1 : Int64} {r : Int64}  (h : fX12_divisor a0 a1 = some r) : Ct w 0 0 0 mtX12_divisor [.long a0, .long a1] (go_mk tx μ) (fun r' M' => r' = some (.long r) ∧ M' = go_mk tx μ) :=
  go_entry rfl (by decide) (Nat.le_of_ble_eq_true rfl) (cmX12_divisor w tx _ μ a0 a1 _ h ⟨rfl, rfl⟩)
def jjX12_wholeBy_53_8 (μ : PM) (a0 : Int32) (a1 : Int32) (a2 : Int32) (a3 : Int32) (v7 : Int32) (s0 : Int64) (s1 : Int64) : Option ((Int64 × Int32 × PM) ⊕ (Int64 × PM)) :=
  some (.inl ((s0 * s1), (v7 + 1), μ))
def jjX12_wholeBy_50_8 (μ : PM) (a0 : Int32) (a1 : Int32) (a2 : Int32) (a3 : Int32) (v7 : Int32) (s0 : Int64) : Option ((Int64 × Int32 × PM) ⊕ (Int64 × PM)) :=
  jjX12_wholeBy_53_8 μ a0 a1 a2 a3 v7 s0 10
def lbX12_wholeBy_8 (a0 : Int32) (a1 : Int32) (a2 : Int32) (a3 : Int32)  (v5 : Int64) (v7 : Int32) (μ : PM) : Option ((Int64 × Int32 × PM) ⊕ (Int64 × PM)) :=
  (if a2 < v7 then some (.inr ((v5, μ))) else (if (fX12_has a3 v7) = 0 then jjX12_wholeBy_50_8 μ a0 a1 a2 a3 v7 v5 else (fX12_get μ a0 1).bind fun q1 => (if q1 ≤ 1 then jjX12_wholeBy_50_8 μ a0 a1 a2 a3 v7 v5 else (fX12_breaksOf μ a0 v7).bind fun q2 => jjX12_wholeBy_53_8 q2.2 a0 a1 a2 a3 v7 v5 (((10 - q2.1) : Int32).toInt64))))
def fX12_wholeBy (μ : PM) (a0 : Int32) (a1 : Int32) (a2 : Int32) (a3 : Int32) : Option (Int64 × PM) :=
  ((lp (fun s => lbX12_wholeBy_8 a0 a1 a2 a3 s.1 s.2.1 s.2.2) go_fuel (1, (a1 + 1), μ)).bind fun ρ3 => some ρ3)
def ggX12_wholeBy_8 (w : go_Wd) (tx : Nat) (Q : Option Value → go_M → Prop) (a0 : Int32) (a1 : Int32) (a2 : Int32) (a3 : Int32)  (s : Int64 × Int32 × PM) : Prop := Go w 7 0 0 mtX12_wholeBy 8 [(0, .ref 401), (1, .int a0), (3, .int a2), (4, .int a3), (5, .long s.1), (7, .int s.2.1)] [] (go_mk tx s.2.2) (go_Z w Q)
def eeX12_wholeBy_8 (w : go_Wd) (tx : Nat) (Q : Option Value → go_M → Prop) (a0 : Int32) (a1 : Int32) (a2 : Int32) (a3 : Int32)  (y : Int64 × PM) : Prop := Q (some (.long y.1)) (go_mk tx y.2)
set_option maxRecDepth 20000 in
set_option maxHeartbeats 4000000 in
theorem jqX12_wholeBy_53_8 (w : go_Wd) (tx : Nat) (Q : Option Value → go_M → Prop) (μ : PM) (a0 : Int32) (a1 : Int32) (a2 : Int32) (a3 : Int32) (v7 : Int32)  (s0 : Int64) (s1 : Int64)  (out : (Int64 × Int32 × PM) ⊕ (Int64 × PM)) (h : jjX12_wholeBy_53_8 μ a0 a1 a2 a3 v7 s0 s1 = some out) (hK : go_out (ggX12_wholeBy_8 w tx Q a0 a1 a2 a3 ) (eeX12_wholeBy_8 w tx Q a0 a1 a2 a3 ) out) : Go w 7 0 0 mtX12_wholeBy 53 [(0, .ref 401), (1, .int a0), (3, .int a2), (4, .int a3), (7, .int v7)] [.long s1, .long s0] (go_mk tx μ) (go_Z w Q) := by
  unfold jjX12_wholeBy_53_8 at h
  refine go_lmul dX12_wholeBy_53 ?_
  refine go_lstore dX12_wholeBy_54 (by decide) rfl ?_
  show Go w 7 0 0 mtX12_wholeBy 56 [(5, .long (s0 * s1)), (0, .ref 401), (1, .int a0), (3, .int a2), (4, .int a3), (7, .int v7)] [] (go_mk tx μ) (go_Z w Q)
  refine go_iinc (v := (v7 + 1)) dX12_wholeBy_56 5 rfl rfl (by decide) rfl ?_
  show Go w 7 0 0 mtX12_wholeBy 59 [(7, .int (v7 + 1)), (5, .long (s0 * s1)), (0, .ref 401), (1, .int a0), (3, .int a2), (4, .int a3)] [] (go_mk tx μ) (go_Z w Q)
  refine go_goto 8 dX12_wholeBy_59 (by decide) ?_
  cases h
  have hK : Go w 7 0 0 mtX12_wholeBy 8 [(0, .ref 401), (1, .int a0), (3, .int a2), (4, .int a3), (5, .long (s0 * s1)), (7, .int (v7 + 1))] [] (go_mk tx μ) (go_Z w Q) := hK
  exact go_pick [2, 3, 4, 5, 1, 0] rfl hK
set_option maxRecDepth 20000 in
set_option maxHeartbeats 4000000 in
theorem jqX12_wholeBy_50_8 (w : go_Wd) (tx : Nat) (Q : Option Value → go_M → Prop) (μ : PM) (a0 : Int32) (a1 : Int32) (a2 : Int32) (a3 : Int32) (v7 : Int32)  (s0 : Int64)  (out : (Int64 × Int32 × PM) ⊕ (Int64 × PM)) (h : jjX12_wholeBy_50_8 μ a0 a1 a2 a3 v7 s0 = some out) (hK : go_out (ggX12_wholeBy_8 w tx Q a0 a1 a2 a3 ) (eeX12_wholeBy_8 w tx Q a0 a1 a2 a3 ) out) : Go w 7 0 0 mtX12_wholeBy 50 [(0, .ref 401), (1, .int a0), (3, .int a2), (4, .int a3), (7, .int v7)] [.long s0] (go_mk tx μ) (go_Z w Q) := by
  unfold jjX12_wholeBy_50_8 at h
  refine go_ldc2 dX12_wholeBy_50 kl_X12_274 ?_
  refine go_pick [0, 1, 2, 3, 4] rfl ?_
  exact jqX12_wholeBy_53_8 w tx Q μ a0 a1 a2 a3 v7  s0 10  _ h hK
set_option maxRecDepth 20000 in
set_option maxHeartbeats 4000000 in
theorem lqX12_wholeBy_8 (w : go_Wd) (tx : Nat) (Q : Option Value → go_M → Prop) (a0 : Int32) (a1 : Int32) (a2 : Int32) (a3 : Int32)   (v5 : Int64) (v7 : Int32) (μ : PM) (out : (Int64 × Int32 × PM) ⊕ (Int64 × PM)) (h : lbX12_wholeBy_8 a0 a1 a2 a3  v5 v7 μ = some out) (hK : go_out (ggX12_wholeBy_8 w tx Q a0 a1 a2 a3 ) (eeX12_wholeBy_8 w tx Q a0 a1 a2 a3 ) out) : ggX12_wholeBy_8 w tx Q a0 a1 a2 a3  (v5, v7, μ) := by
  unfold lbX12_wholeBy_8 at h
  show Go w 7 0 0 mtX12_wholeBy 8 [(0, .ref 401), (1, .int a0), (3, .int a2), (4, .int a3), (5, .long v5), (7, .int v7)] [] (go_mk tx μ) (go_Z w Q)
  refine go_iload dX12_wholeBy_8 5 rfl ?_
  refine go_iload_n dX12_wholeBy_10 2 rfl ?_
  refine go_icmp_gt 62 dX12_wholeBy_11 (by decide) (fun hc => ?_) (fun hc => ?_)
  · have h := go_ifp hc h
    refine go_lload dX12_wholeBy_62 4 rfl ?_
    cases h
    exact go_lret dX12_wholeBy_64 rfl hK
  · have h := go_ifn hc h
    refine go_lload dX12_wholeBy_14 4 rfl ?_
    refine go_iload dX12_wholeBy_16 3 rfl ?_
    refine go_iload dX12_wholeBy_18 5 rfl ?_
    refine pp_callS (as := [.int a3, .int v7]) (st := [.long v5]) (rv := (some (.int (fX12_has a3 v7)))) (μ1 := μ) (st1 := [.int (fX12_has a3 v7), .long v5]) dX12_wholeBy_20 ll_X12_239 (ctX12_has  rfl) rfl (Nat.le_of_ble_eq_true rfl) (Nat.le_of_ble_eq_true rfl) (go_Z_up w _) rfl rfl ?_
    refine go_if_eq 50 dX12_wholeBy_23 (by decide) (fun hc => ?_) (fun hc => ?_)
    · have h := go_ifp hc h
      refine go_pick [0, 1, 2, 3, 5] rfl ?_
      exact jqX12_wholeBy_50_8 w tx Q μ a0 a1 a2 a3 v7  v5  _ h hK
    · have h := go_ifn hc h
      refine go_aload_n dX12_wholeBy_26 0 rfl ?_
      refine go_iload_n dX12_wholeBy_27 1 rfl ?_
      refine go_iconst (v := 1) dX12_wholeBy_28 (by decide) ?_
      obtain ⟨q1, hq1, h⟩ := go_bind h
      refine pp_callV (as := [.int a0, .int 1]) (st := [.long v5]) (rv := (some (.int q1))) (μ1 := μ) (st1 := [.int q1, .long v5]) dX12_wholeBy_29 ll_X12_264 sh_401 (by decide) rfl (ctX12_get  hq1) rfl (Nat.le_of_ble_eq_true rfl) (Nat.le_of_ble_eq_true rfl) (go_Z_up w _) rfl rfl ?_
      refine go_iconst (v := 1) dX12_wholeBy_32 (by decide) ?_
      refine go_icmp_le 50 dX12_wholeBy_33 (by decide) (fun hc => ?_) (fun hc => ?_)
      · have h := go_ifp hc h
        refine go_pick [0, 1, 2, 3, 5] rfl ?_
        exact jqX12_wholeBy_50_8 w tx Q μ a0 a1 a2 a3 v7  v5  _ h hK
      · have h := go_ifn hc h
        refine go_bipush (v := 10) dX12_wholeBy_36 (by decide) ?_
        refine go_aload_n dX12_wholeBy_38 0 rfl ?_
        refine go_iload_n dX12_wholeBy_39 1 rfl ?_
        refine go_iload dX12_wholeBy_40 5 rfl ?_
        obtain ⟨q2, hq2, h⟩ := go_bind h
        refine pp_callV (as := [.int a0, .int v7]) (st := [.int 10, .long v5]) (rv := (some (.int q2.1))) (μ1 := q2.2) (st1 := [.int q2.1, .int 10, .long v5]) dX12_wholeBy_42 ll_X12_321 sh_401 (by decide) rfl (ctX12_breaksOf  hq2) rfl (Nat.le_of_ble_eq_true rfl) (Nat.le_of_ble_eq_true rfl) (go_Z_up w _) rfl rfl ?_
        refine go_isub dX12_wholeBy_45 ?_
        refine go_i2l dX12_wholeBy_46 ?_
        refine go_goto 53 dX12_wholeBy_47 (by decide) ?_
        refine go_pick [0, 1, 2, 3, 5] rfl ?_
        exact jqX12_wholeBy_53_8 w tx Q q2.2 a0 a1 a2 a3 v7  v5 (((10 - q2.1) : Int32).toInt64)  _ h hK
set_option maxRecDepth 20000 in
set_option maxHeartbeats 4000000 in
theorem cmX12_wholeBy (w : go_Wd) (tx : Nat) (Q : Option Value → go_M → Prop) (μ : PM) (a0 : Int32) (a1 : Int32) (a2 : Int32) (a3 : Int32) (out : Int64 × PM) (h : fX12_wholeBy μ a0 a1 a2 a3 = some out) (hK : Q (some (.long out.1)) (go_mk tx out.2)) : Go w 7 0 0 mtX12_wholeBy 0 [(0, .ref 401), (1, .int a0), (2, .int a1), (3, .int a2), (4, .int a3)] [] (go_mk tx μ) (go_Z w Q) := by
  unfold fX12_wholeBy at h
  refine go_lconst (v := 1) dX12_wholeBy_0 (by decide) ?_
  refine go_lstore dX12_wholeBy_1 (by decide) rfl ?_
  show Go w 7 0 0 mtX12_wholeBy 3 [(5, .long 1), (0, .ref 401), (1, .int a0), (2, .int a1), (3, .int a2), (4, .int a3)] [] (go_mk tx μ) (go_Z w Q)
  refine go_iload_n dX12_wholeBy_3 3 rfl ?_
  refine go_iconst (v := 1) dX12_wholeBy_4 (by decide) ?_
  refine go_iadd dX12_wholeBy_5 ?_
  refine go_istore dX12_wholeBy_6 (by decide) rfl ?_
  show Go w 7 0 0 mtX12_wholeBy 8 [(7, .int (a1 + 1)), (5, .long 1), (0, .ref 401), (1, .int a0), (2, .int a1), (3, .int a2), (4, .int a3)] [] (go_mk tx μ) (go_Z w Q)
  obtain ⟨ρ3, hρ3, h⟩ := go_bind h
  refine go_pick [2, 3, 5, 6, 1, 0] rfl ?_
  refine go_lp (G := ggX12_wholeBy_8 w tx Q a0 a1 a2 a3 ) (E := eeX12_wholeBy_8 w tx Q a0 a1 a2 a3 ) (fun s out h hK => lqX12_wholeBy_8 w tx Q a0 a1 a2 a3   s.1 s.2.1 s.2.2 out h hK) go_fuel (1, (a1 + 1), μ) ρ3 hρ3 ?_
  cases h
  exact hK
theorem ctX12_wholeBy {w : go_Wd} {tx : Nat} {μ : PM} {a0 : Int32} {a1 : Int32} {a2 : Int32} {a3 : Int32} {r : Int64} {μ1 : PM}  (h : fX12_wholeBy μ a0 a1 a2 a3 = some (r, μ1)) : Ct w 7 0 0 mtX12_wholeBy [.ref 401, .int a0, .int a1, .int a2, .int a3] (go_mk tx μ) (fun r' M' => r' = some (.long r) ∧ M' = go_mk tx μ1) :=
  go_entry rfl (by decide) (Nat.le_of_ble_eq_true rfl) (cmX12_wholeBy w tx _ μ a0 a1 a2 a3 _ h ⟨rfl, rfl⟩)
def fX12_isStream (μ : PM) (a0 : Int32) (a1 : Int32) (a2 : Int32) : Int32 :=
  (if (fX12_isName μ a0) = 0 then 0 else (if (fX12_isCell a1) = 0 then 0 else (if (fX12_isCell a2) = 0 then 0 else (if a2 < a1 then 0 else 1))))
set_option maxRecDepth 20000 in
set_option maxHeartbeats 4000000 in
theorem cmX12_isStream (w : go_Wd) (tx : Nat) (Q : Option Value → go_M → Prop) (μ : PM) (a0 : Int32) (a1 : Int32) (a2 : Int32) (out : Int32) (h : fX12_isStream μ a0 a1 a2 = out) (hK : Q (some (.int out)) (go_mk tx μ)) : Go w 2 0 0 mtX12_isStream 0 [(0, .ref 401), (1, .int a0), (2, .int a1), (3, .int a2)] [] (go_mk tx μ) (go_Z w Q) := by
  unfold fX12_isStream at h
  refine go_aload_n dX12_isStream_0 0 rfl ?_
  refine go_iload_n dX12_isStream_1 1 rfl ?_
  refine pp_callV (as := [.int a0]) (st := []) (rv := (some (.int (fX12_isName μ a0)))) (μ1 := μ) (st1 := [.int (fX12_isName μ a0)]) dX12_isStream_2 ll_X12_261 sh_401 (by decide) rfl (ctX12_isName  rfl) rfl (Nat.le_of_ble_eq_true rfl) (Nat.le_of_ble_eq_true rfl) (go_Z_up w _) rfl rfl ?_
  refine go_if_eq 31 dX12_isStream_5 (by decide) (fun hc => ?_) (fun hc => ?_)
  · have h := go_ifp hc h
    refine go_iconst (v := 0) dX12_isStream_31 (by decide) ?_
    subst h
    exact go_zret dX12_isStream_32 rfl (Or.inl rfl) hK
  · have h := go_ifn hc h
    refine go_iload_n dX12_isStream_8 2 rfl ?_
    refine pp_callS (as := [.int a1]) (st := []) (rv := (some (.int (fX12_isCell a1)))) (μ1 := μ) (st1 := [.int (fX12_isCell a1)]) dX12_isStream_9 ll_X12_84 (ctX12_isCell  rfl) rfl (Nat.le_of_ble_eq_true rfl) (Nat.le_of_ble_eq_true rfl) (go_Z_up w _) rfl rfl ?_
    refine go_if_eq 31 dX12_isStream_12 (by decide) (fun hc => ?_) (fun hc => ?_)
    · have h := go_ifp hc h
      refine go_iconst (v := 0) dX12_isStream_31 (by decide) ?_
      subst h
      exact go_zret dX12_isStream_32 rfl (Or.inl rfl) hK
    · have h := go_ifn hc h
      refine go_iload_n dX12_isStream_15 3 rfl ?_
      refine pp_callS (as := [.int a2]) (st := []) (rv := (some (.int (fX12_isCell a2)))) (μ1 := μ) (st1 := [.int (fX12_isCell a2)]) dX12_isStream_16 ll_X12_84 (ctX12_isCell  rfl) rfl (Nat.le_of_ble_eq_true rfl) (Nat.le_of_ble_eq_true rfl) (go_Z_up w _) rfl rfl ?_
      refine go_if_eq 31 dX12_isStream_19 (by decide) (fun hc => ?_) (fun hc => ?_)
      · have h := go_ifp hc h
        refine go_iconst (v := 0) dX12_isStream_31 (by decide) ?_
        subst h
        exact go_zret dX12_isStream_32 rfl (Or.inl rfl) hK
      · have h := go_ifn hc h
        refine go_iload_n dX12_isStream_22 2 rfl ?_
        refine go_iload_n dX12_isStream_23 3 rfl ?_
        refine go_icmp_gt 31 dX12_isStream_24 (by decide) (fun hc => ?_) (fun hc => ?_)
        · have h := go_ifp hc h
          refine go_iconst (v := 0) dX12_isStream_31 (by decide) ?_
          subst h
          exact go_zret dX12_isStream_32 rfl (Or.inl rfl) hK
        · have h := go_ifn hc h
          refine go_iconst (v := 1) dX12_isStream_27 (by decide) ?_
          refine go_goto 32 dX12_isStream_28 (by decide) ?_
          subst h
          exact go_zret dX12_isStream_32 rfl (Or.inr rfl) hK
theorem ctX12_isStream {w : go_Wd} {tx : Nat} {μ : PM} {a0 : Int32} {a1 : Int32} {a2 : Int32} {r : Int32}  (h : fX12_isStream μ a0 a1 a2 = r) : Ct w 2 0 0 mtX12_isStream [.ref 401, .int a0, .int a1, .int a2] (go_mk tx μ) (fun r' M' => r' = some (.int r) ∧ M' = go_mk tx μ) :=
  go_entry rfl (by decide) (Nat.le_of_ble_eq_true rfl) (cmX12_isStream w tx _ μ a0 a1 a2 _ h ⟨rfl, rfl⟩)
theorem bzX12_isStream {μ : PM} {a0 : Int32} {a1 : Int32} {a2 : Int32} {r : Int32} (h : fX12_isStream μ a0 a1 a2 = r) : r = 0 ∨ r = 1 := by
  subst h
  show go_bi _
  unfold fX12_isStream
  repeat' first | exact bi_0 | exact bi_1 | exact bzX12_isCell rfl | exact bzX12_isName rfl | with_reducible apply bi_ite
def jjX12_whole_50 (μ : PM) (a0 : Int32) (a1 : Int32) (a2 : Int32) (a3 : Int32) (v5 : Int64) (v7 : Int64) (s0 : Int64) : Option (Int64 × PM) :=
  (fX12_divisor v5 v7).bind fun q3 => go_nzl q3 <| some (((s0 / q3), μ))
def fX12_whole (μ : PM) (a0 : Int32) (a1 : Int32) (a2 : Int32) (a3 : Int32) : Option (Int64 × PM) :=
  (if (fX12_isStream μ a0 a1 a2) = 0 then some (((-1), μ)) else (fX12_wholeBy μ a0 a1 a2 (μ.1 402 10)).bind fun q1 => (fX12_tens (a2 - a1)).bind fun q2 => (if a3 = 0 then jjX12_whole_50 q1.2 a0 a1 a2 a3 q1.1 q2 q1.1 else jjX12_whole_50 q1.2 a0 a1 a2 a3 q1.1 q2 q2))
set_option maxRecDepth 20000 in
set_option maxHeartbeats 4000000 in
theorem jqX12_whole_50 (w : go_Wd) (tx : Nat) (Q : Option Value → go_M → Prop) (μ : PM) (a0 : Int32) (a1 : Int32) (a2 : Int32) (a3 : Int32) (v5 : Int64) (v7 : Int64)  (s0 : Int64)  (out : Int64 × PM) (h : jjX12_whole_50 μ a0 a1 a2 a3 v5 v7 s0 = some out) (hK : Q (some (.long out.1)) (go_mk tx out.2)) : Go w 8 0 0 mtX12_whole 50 [(5, .long v5), (7, .long v7)] [.long s0] (go_mk tx μ) (go_Z w Q) := by
  unfold jjX12_whole_50 at h
  refine go_lload dX12_whole_50 0 rfl ?_
  refine go_lload dX12_whole_52 1 rfl ?_
  obtain ⟨q3, hq3, h⟩ := go_bind h
  refine pp_callS (as := [.long v5, .long v7]) (st := [.long s0]) (rv := (some (.long q3))) (μ1 := μ) (st1 := [.long q3, .long s0]) dX12_whole_54 ll_X12_436 (ctX12_divisor  hq3) rfl (Nat.le_of_ble_eq_true rfl) (Nat.le_of_ble_eq_true rfl) (go_Z_up w _) rfl rfl ?_
  obtain ⟨hz4, h⟩ := go_nzl_e h
  refine go_ldiv dX12_whole_57 hz4 ?_
  cases h
  exact go_lret dX12_whole_58 rfl hK
set_option maxRecDepth 20000 in
set_option maxHeartbeats 4000000 in
theorem cmX12_whole (w : go_Wd) (tx : Nat) (Q : Option Value → go_M → Prop) (μ : PM) (a0 : Int32) (a1 : Int32) (a2 : Int32) (a3 : Int32) (out : Int64 × PM) (h : fX12_whole μ a0 a1 a2 a3 = some out) (hK : Q (some (.long out.1)) (go_mk tx out.2)) : Go w 8 0 0 mtX12_whole 0 [(0, .ref 401), (1, .int a0), (2, .int a1), (3, .int a2), (4, .int a3)] [] (go_mk tx μ) (go_Z w Q) := by
  unfold fX12_whole at h
  refine go_aload_n dX12_whole_0 0 rfl ?_
  refine go_iload_n dX12_whole_1 1 rfl ?_
  refine go_iload_n dX12_whole_2 2 rfl ?_
  refine go_iload_n dX12_whole_3 3 rfl ?_
  refine pp_callV (as := [.int a0, .int a1, .int a2]) (st := []) (rv := (some (.int (fX12_isStream μ a0 a1 a2)))) (μ1 := μ) (st1 := [.int (fX12_isStream μ a0 a1 a2)]) dX12_whole_4 ll_X12_424 sh_401 (by decide) rfl (ctX12_isStream  rfl) rfl (Nat.le_of_ble_eq_true rfl) (Nat.le_of_ble_eq_true rfl) (go_Z_up w _) rfl rfl ?_
  refine go_if_ne 14 dX12_whole_7 (by decide) (fun hc => ?_) (fun hc => ?_)
  · have h := go_ifn hc h
    refine go_aload_n dX12_whole_14 0 rfl ?_
    refine go_iload_n dX12_whole_15 1 rfl ?_
    refine go_iload_n dX12_whole_16 2 rfl ?_
    refine go_iload_n dX12_whole_17 3 rfl ?_
    refine go_aload_n dX12_whole_18 0 rfl ?_
    refine pp_getR dX12_whole_19 ff_X12_7 (Or.inr ⟨_, rfl⟩) sh_401 rf_401_0 ?_
    refine go_bipush (v := 10) dX12_whole_22 (by decide) ?_
    refine pp_ildc (q := 10) dX12_whole_24 sh_402 (by decide) ?_
    obtain ⟨q1, hq1, h⟩ := go_bind h
    refine pp_callV (as := [.int a0, .int a1, .int a2, .int (μ.1 402 10)]) (st := []) (rv := (some (.long q1.1))) (μ1 := q1.2) (st1 := [.long q1.1]) dX12_whole_25 ll_X12_429 sh_401 (by decide) rfl (ctX12_wholeBy  hq1) rfl (Nat.le_of_ble_eq_true rfl) (Nat.le_of_ble_eq_true rfl) (go_Z_up w _) rfl rfl ?_
    refine go_lstore dX12_whole_28 (by decide) rfl ?_
    show Go w 8 0 0 mtX12_whole 30 [(5, .long q1.1), (0, .ref 401), (1, .int a0), (2, .int a1), (3, .int a2), (4, .int a3)] [] (go_mk tx q1.2) (go_Z w Q)
    refine go_iload_n dX12_whole_30 4 rfl ?_
    refine go_iload_n dX12_whole_31 3 rfl ?_
    refine go_isub dX12_whole_32 ?_
    obtain ⟨q2, hq2, h⟩ := go_bind h
    refine pp_callS (as := [.int (a2 - a1)]) (st := []) (rv := (some (.long q2))) (μ1 := q1.2) (st1 := [.long q2]) dX12_whole_33 ll_X12_432 (ctX12_tens  hq2) rfl (Nat.le_of_ble_eq_true rfl) (Nat.le_of_ble_eq_true rfl) (go_Z_up w _) rfl rfl ?_
    refine go_lstore dX12_whole_36 (by decide) rfl ?_
    show Go w 8 0 0 mtX12_whole 38 [(7, .long q2), (5, .long q1.1), (0, .ref 401), (1, .int a0), (2, .int a1), (3, .int a2), (4, .int a3)] [] (go_mk tx q1.2) (go_Z w Q)
    refine go_iload dX12_whole_38 6 rfl ?_
    refine go_if_eq 48 dX12_whole_40 (by decide) (fun hc => ?_) (fun hc => ?_)
    · have h := go_ifp hc h
      refine go_lload dX12_whole_48 1 rfl ?_
      refine go_pick [1, 0] rfl ?_
      exact jqX12_whole_50 w tx Q q1.2 a0 a1 a2 a3 q1.1 q2  q1.1  _ h hK
    · have h := go_ifn hc h
      refine go_lload dX12_whole_43 0 rfl ?_
      refine go_goto 50 dX12_whole_45 (by decide) ?_
      refine go_pick [1, 0] rfl ?_
      exact jqX12_whole_50 w tx Q q1.2 a0 a1 a2 a3 q1.1 q2  q2  _ h hK
  · have h := go_ifp hc h
    refine go_ldc2 dX12_whole_10 kl_X12_427 ?_
    cases h
    exact go_lret dX12_whole_13 rfl hK
theorem ctX12_whole {w : go_Wd} {tx : Nat} {μ : PM} {a0 : Int32} {a1 : Int32} {a2 : Int32} {a3 : Int32} {r : Int64} {μ1 : PM}  (h : fX12_whole μ a0 a1 a2 a3 = some (r, μ1)) : Ct w 8 0 0 mtX12_whole [.ref 401, .int a0, .int a1, .int a2, .int a3] (go_mk tx μ) (fun r' M' => r' = some (.long r) ∧ M' = go_mk tx μ1) :=
  go_entry rfl (by decide) (Nat.le_of_ble_eq_true rfl) (cmX12_whole w tx _ μ a0 a1 a2 a3 _ h ⟨rfl, rfl⟩)
def lbX12_clear_41 (a0 : Int32) (a1 : Int32) (a2 : Int32) (a3 : Int32)  (v5 : Int32) (v6 : Int32) (μ : PM) : Option ((Int32 × Int32 × PM) ⊕ (Int32 × PM)) :=
  (if v6 < 0 then some (.inr ((v5, μ))) else (if (v6 &&& ((μ.1 402 10) ^^^ (-1))) = 0 then (fX12_bits v6).bind fun q1 => (fX12_bits v5).bind fun q2 => (if q1 ≤ q2 then (fX12_wholeBy μ a0 a1 a2 ((μ.1 402 10) &&& (v6 ^^^ (-1)))).bind fun q3 => (fX12_tens (a2 - a1)).bind fun q4 => (if (lg_cmp (10 * q3.1) (a3.toInt64 * q4)) < 0 then some (.inl (v5, (v6 + (-1)), q3.2)) else some (.inl (v6, (v6 + (-1)), q3.2))) else some (.inl (v5, (v6 + (-1)), μ))) else some (.inl (v5, (v6 + (-1)), μ))))
def fX12_clear (μ : PM) (a0 : Int32) (a1 : Int32) (a2 : Int32) (a3 : Int32) : Option (Int32 × PM) :=
  (if (fX12_isStream μ a0 a1 a2) = 0 then some (((-1), μ)) else (if (fX12_isIn a3 1 10) = 0 then some (((-1), μ)) else ((lp (fun s => lbX12_clear_41 a0 a1 a2 a3 s.1 s.2.1 s.2.2) go_fuel ((μ.1 402 10), (μ.1 402 10), μ)).bind fun ρ5 => some ρ5)))
def ggX12_clear_41 (w : go_Wd) (tx : Nat) (Q : Option Value → go_M → Prop) (a0 : Int32) (a1 : Int32) (a2 : Int32) (a3 : Int32)  (s : Int32 × Int32 × PM) : Prop := Go w 8 0 0 mtX12_clear 41 [(0, .ref 401), (1, .int a0), (2, .int a1), (3, .int a2), (4, .int a3), (5, .int s.1), (6, .int s.2.1)] [] (go_mk tx s.2.2) (go_Z w Q)
def eeX12_clear_41 (w : go_Wd) (tx : Nat) (Q : Option Value → go_M → Prop) (a0 : Int32) (a1 : Int32) (a2 : Int32) (a3 : Int32)  (y : Int32 × PM) : Prop := Q (some (.int y.1)) (go_mk tx y.2)
set_option maxRecDepth 20000 in
set_option maxHeartbeats 4000000 in
theorem lqX12_clear_41 (w : go_Wd) (tx : Nat) (Q : Option Value → go_M → Prop) (a0 : Int32) (a1 : Int32) (a2 : Int32) (a3 : Int32)   (v5 : Int32) (v6 : Int32) (μ : PM) (out : (Int32 × Int32 × PM) ⊕ (Int32 × PM)) (h : lbX12_clear_41 a0 a1 a2 a3  v5 v6 μ = some out) (hK : go_out (ggX12_clear_41 w tx Q a0 a1 a2 a3 ) (eeX12_clear_41 w tx Q a0 a1 a2 a3 ) out) : ggX12_clear_41 w tx Q a0 a1 a2 a3  (v5, v6, μ) := by
  unfold lbX12_clear_41 at h
  show Go w 8 0 0 mtX12_clear 41 [(0, .ref 401), (1, .int a0), (2, .int a1), (3, .int a2), (4, .int a3), (5, .int v5), (6, .int v6)] [] (go_mk tx μ) (go_Z w Q)
  refine go_iload dX12_clear_41 6 rfl ?_
  refine go_if_lt 124 dX12_clear_43 (by decide) (fun hc => ?_) (fun hc => ?_)
  · have h := go_ifp hc h
    refine go_iload dX12_clear_124 5 rfl ?_
    cases h
    exact go_iret dX12_clear_126 rfl hK
  · have h := go_ifn hc h
    refine go_iload dX12_clear_46 6 rfl ?_
    refine go_aload_n dX12_clear_48 0 rfl ?_
    refine pp_getR dX12_clear_49 ff_X12_7 (Or.inr ⟨_, rfl⟩) sh_401 rf_401_0 ?_
    refine go_bipush (v := 10) dX12_clear_52 (by decide) ?_
    refine pp_ildc (q := 10) dX12_clear_54 sh_402 (by decide) ?_
    refine go_iconst (v := (-1)) dX12_clear_55 (by decide) ?_
    refine go_ixor dX12_clear_56 ?_
    refine go_iand dX12_clear_57 ?_
    refine go_if_ne 118 dX12_clear_58 (by decide) (fun hc => ?_) (fun hc => ?_)
    · have h := go_ifn hc h
      refine go_iinc (v := (v6 + (-1))) dX12_clear_118 6 rfl rfl (by decide) rfl ?_
      show Go w 8 0 0 mtX12_clear 121 [(6, .int (v6 + (-1))), (0, .ref 401), (1, .int a0), (2, .int a1), (3, .int a2), (4, .int a3), (5, .int v5)] [] (go_mk tx μ) (go_Z w Q)
      refine go_goto 41 dX12_clear_121 (by decide) ?_
      cases h
      have hK : Go w 8 0 0 mtX12_clear 41 [(0, .ref 401), (1, .int a0), (2, .int a1), (3, .int a2), (4, .int a3), (5, .int v5), (6, .int (v6 + (-1)))] [] (go_mk tx μ) (go_Z w Q) := hK
      exact go_pick [1, 2, 3, 4, 5, 6, 0] rfl hK
    · have h := go_ifp hc h
      refine go_iload dX12_clear_61 6 rfl ?_
      obtain ⟨q1, hq1, h⟩ := go_bind h
      refine pp_callS (as := [.int v6]) (st := []) (rv := (some (.int q1))) (μ1 := μ) (st1 := [.int q1]) dX12_clear_63 ll_X12_397 (ctX12_bits  hq1) rfl (Nat.le_of_ble_eq_true rfl) (Nat.le_of_ble_eq_true rfl) (go_Z_up w _) rfl rfl ?_
      refine go_iload dX12_clear_66 5 rfl ?_
      obtain ⟨q2, hq2, h⟩ := go_bind h
      refine pp_callS (as := [.int v5]) (st := [.int q1]) (rv := (some (.int q2))) (μ1 := μ) (st1 := [.int q2, .int q1]) dX12_clear_68 ll_X12_397 (ctX12_bits  hq2) rfl (Nat.le_of_ble_eq_true rfl) (Nat.le_of_ble_eq_true rfl) (go_Z_up w _) rfl rfl ?_
      refine go_icmp_le 77 dX12_clear_71 (by decide) (fun hc => ?_) (fun hc => ?_)
      · have h := go_ifp hc h
        refine go_ldc2 dX12_clear_77 kl_X12_274 ?_
        refine go_aload_n dX12_clear_80 0 rfl ?_
        refine go_iload_n dX12_clear_81 1 rfl ?_
        refine go_iload_n dX12_clear_82 2 rfl ?_
        refine go_iload_n dX12_clear_83 3 rfl ?_
        refine go_aload_n dX12_clear_84 0 rfl ?_
        refine pp_getR dX12_clear_85 ff_X12_7 (Or.inr ⟨_, rfl⟩) sh_401 rf_401_0 ?_
        refine go_bipush (v := 10) dX12_clear_88 (by decide) ?_
        refine pp_ildc (q := 10) dX12_clear_90 sh_402 (by decide) ?_
        refine go_iload dX12_clear_91 6 rfl ?_
        refine go_iconst (v := (-1)) dX12_clear_93 (by decide) ?_
        refine go_ixor dX12_clear_94 ?_
        refine go_iand dX12_clear_95 ?_
        obtain ⟨q3, hq3, h⟩ := go_bind h
        refine pp_callV (as := [.int a0, .int a1, .int a2, .int ((μ.1 402 10) &&& (v6 ^^^ (-1)))]) (st := [.long 10]) (rv := (some (.long q3.1))) (μ1 := q3.2) (st1 := [.long q3.1, .long 10]) dX12_clear_96 ll_X12_429 sh_401 (by decide) rfl (ctX12_wholeBy  hq3) rfl (Nat.le_of_ble_eq_true rfl) (Nat.le_of_ble_eq_true rfl) (go_Z_up w _) rfl rfl ?_
        refine go_lmul dX12_clear_99 ?_
        refine go_iload dX12_clear_100 4 rfl ?_
        refine go_i2l dX12_clear_102 ?_
        refine go_iload_n dX12_clear_103 3 rfl ?_
        refine go_iload_n dX12_clear_104 2 rfl ?_
        refine go_isub dX12_clear_105 ?_
        obtain ⟨q4, hq4, h⟩ := go_bind h
        refine pp_callS (as := [.int (a2 - a1)]) (st := [.long a3.toInt64, .long (10 * q3.1)]) (rv := (some (.long q4))) (μ1 := q3.2) (st1 := [.long q4, .long a3.toInt64, .long (10 * q3.1)]) dX12_clear_106 ll_X12_432 (ctX12_tens  hq4) rfl (Nat.le_of_ble_eq_true rfl) (Nat.le_of_ble_eq_true rfl) (go_Z_up w _) rfl rfl ?_
        refine go_lmul dX12_clear_109 ?_
        refine go_lcmp dX12_clear_110 ?_
        refine go_if_lt 118 dX12_clear_111 (by decide) (fun hc => ?_) (fun hc => ?_)
        · have h := go_ifp hc h
          refine go_iinc (v := (v6 + (-1))) dX12_clear_118 6 rfl rfl (by decide) rfl ?_
          show Go w 8 0 0 mtX12_clear 121 [(6, .int (v6 + (-1))), (0, .ref 401), (1, .int a0), (2, .int a1), (3, .int a2), (4, .int a3), (5, .int v5)] [] (go_mk tx q3.2) (go_Z w Q)
          refine go_goto 41 dX12_clear_121 (by decide) ?_
          cases h
          have hK : Go w 8 0 0 mtX12_clear 41 [(0, .ref 401), (1, .int a0), (2, .int a1), (3, .int a2), (4, .int a3), (5, .int v5), (6, .int (v6 + (-1)))] [] (go_mk tx q3.2) (go_Z w Q) := hK
          exact go_pick [1, 2, 3, 4, 5, 6, 0] rfl hK
        · have h := go_ifn hc h
          refine go_iload dX12_clear_114 6 rfl ?_
          refine go_istore dX12_clear_116 (by decide) rfl ?_
          show Go w 8 0 0 mtX12_clear 118 [(5, .int v6), (0, .ref 401), (1, .int a0), (2, .int a1), (3, .int a2), (4, .int a3), (6, .int v6)] [] (go_mk tx q3.2) (go_Z w Q)
          refine go_iinc (v := (v6 + (-1))) dX12_clear_118 6 rfl rfl (by decide) rfl ?_
          show Go w 8 0 0 mtX12_clear 121 [(6, .int (v6 + (-1))), (5, .int v6), (0, .ref 401), (1, .int a0), (2, .int a1), (3, .int a2), (4, .int a3)] [] (go_mk tx q3.2) (go_Z w Q)
          refine go_goto 41 dX12_clear_121 (by decide) ?_
          cases h
          have hK : Go w 8 0 0 mtX12_clear 41 [(0, .ref 401), (1, .int a0), (2, .int a1), (3, .int a2), (4, .int a3), (5, .int v6), (6, .int (v6 + (-1)))] [] (go_mk tx q3.2) (go_Z w Q) := hK
          exact go_pick [2, 3, 4, 5, 6, 1, 0] rfl hK
      · have h := go_ifn hc h
        refine go_goto 118 dX12_clear_74 (by decide) ?_
        refine go_iinc (v := (v6 + (-1))) dX12_clear_118 6 rfl rfl (by decide) rfl ?_
        show Go w 8 0 0 mtX12_clear 121 [(6, .int (v6 + (-1))), (0, .ref 401), (1, .int a0), (2, .int a1), (3, .int a2), (4, .int a3), (5, .int v5)] [] (go_mk tx μ) (go_Z w Q)
        refine go_goto 41 dX12_clear_121 (by decide) ?_
        cases h
        have hK : Go w 8 0 0 mtX12_clear 41 [(0, .ref 401), (1, .int a0), (2, .int a1), (3, .int a2), (4, .int a3), (5, .int v5), (6, .int (v6 + (-1)))] [] (go_mk tx μ) (go_Z w Q) := hK
        exact go_pick [1, 2, 3, 4, 5, 6, 0] rfl hK
set_option maxRecDepth 20000 in
set_option maxHeartbeats 4000000 in
theorem cmX12_clear (w : go_Wd) (tx : Nat) (Q : Option Value → go_M → Prop) (μ : PM) (a0 : Int32) (a1 : Int32) (a2 : Int32) (a3 : Int32) (out : Int32 × PM) (h : fX12_clear μ a0 a1 a2 a3 = some out) (hK : Q (some (.int out.1)) (go_mk tx out.2)) : Go w 8 0 0 mtX12_clear 0 [(0, .ref 401), (1, .int a0), (2, .int a1), (3, .int a2), (4, .int a3)] [] (go_mk tx μ) (go_Z w Q) := by
  unfold fX12_clear at h
  refine go_aload_n dX12_clear_0 0 rfl ?_
  refine go_iload_n dX12_clear_1 1 rfl ?_
  refine go_iload_n dX12_clear_2 2 rfl ?_
  refine go_iload_n dX12_clear_3 3 rfl ?_
  refine pp_callV (as := [.int a0, .int a1, .int a2]) (st := []) (rv := (some (.int (fX12_isStream μ a0 a1 a2)))) (μ1 := μ) (st1 := [.int (fX12_isStream μ a0 a1 a2)]) dX12_clear_4 ll_X12_424 sh_401 (by decide) rfl (ctX12_isStream  rfl) rfl (Nat.le_of_ble_eq_true rfl) (Nat.le_of_ble_eq_true rfl) (go_Z_up w _) rfl rfl ?_
  refine go_if_eq 21 dX12_clear_7 (by decide) (fun hc => ?_) (fun hc => ?_)
  · have h := go_ifp hc h
    refine go_iconst (v := (-1)) dX12_clear_21 (by decide) ?_
    cases h
    exact go_iret dX12_clear_22 rfl hK
  · have h := go_ifn hc h
    refine go_iload dX12_clear_10 4 rfl ?_
    refine go_iconst (v := 1) dX12_clear_12 (by decide) ?_
    refine go_bipush (v := 10) dX12_clear_13 (by decide) ?_
    refine pp_callS (as := [.int a3, .int 1, .int 10]) (st := []) (rv := (some (.int (fX12_isIn a3 1 10)))) (μ1 := μ) (st1 := [.int (fX12_isIn a3 1 10)]) dX12_clear_15 ll_X12_63 (ctX12_isIn  rfl) rfl (Nat.le_of_ble_eq_true rfl) (Nat.le_of_ble_eq_true rfl) (go_Z_up w _) rfl rfl ?_
    refine go_if_ne 23 dX12_clear_18 (by decide) (fun hc => ?_) (fun hc => ?_)
    · have h := go_ifn hc h
      refine go_aload_n dX12_clear_23 0 rfl ?_
      refine pp_getR dX12_clear_24 ff_X12_7 (Or.inr ⟨_, rfl⟩) sh_401 rf_401_0 ?_
      refine go_bipush (v := 10) dX12_clear_27 (by decide) ?_
      refine pp_ildc (q := 10) dX12_clear_29 sh_402 (by decide) ?_
      refine go_istore dX12_clear_30 (by decide) rfl ?_
      show Go w 8 0 0 mtX12_clear 32 [(5, .int (μ.1 402 10)), (0, .ref 401), (1, .int a0), (2, .int a1), (3, .int a2), (4, .int a3)] [] (go_mk tx μ) (go_Z w Q)
      refine go_aload_n dX12_clear_32 1 rfl ?_
      refine pp_getR dX12_clear_33 ff_X12_7 (Or.inr ⟨_, rfl⟩) sh_401 rf_401_0 ?_
      refine go_bipush (v := 10) dX12_clear_36 (by decide) ?_
      refine pp_ildc (q := 10) dX12_clear_38 sh_402 (by decide) ?_
      refine go_istore dX12_clear_39 (by decide) rfl ?_
      show Go w 8 0 0 mtX12_clear 41 [(6, .int (μ.1 402 10)), (5, .int (μ.1 402 10)), (0, .ref 401), (1, .int a0), (2, .int a1), (3, .int a2), (4, .int a3)] [] (go_mk tx μ) (go_Z w Q)
      obtain ⟨ρ5, hρ5, h⟩ := go_bind h
      refine go_pick [2, 3, 4, 5, 6, 1, 0] rfl ?_
      refine go_lp (G := ggX12_clear_41 w tx Q a0 a1 a2 a3 ) (E := eeX12_clear_41 w tx Q a0 a1 a2 a3 ) (fun s out h hK => lqX12_clear_41 w tx Q a0 a1 a2 a3   s.1 s.2.1 s.2.2 out h hK) go_fuel ((μ.1 402 10), (μ.1 402 10), μ) ρ5 hρ5 ?_
      cases h
      exact hK
    · have h := go_ifp hc h
      refine go_iconst (v := (-1)) dX12_clear_21 (by decide) ?_
      cases h
      exact go_iret dX12_clear_22 rfl hK
theorem ctX12_clear {w : go_Wd} {tx : Nat} {μ : PM} {a0 : Int32} {a1 : Int32} {a2 : Int32} {a3 : Int32} {r : Int32} {μ1 : PM}  (h : fX12_clear μ a0 a1 a2 a3 = some (r, μ1)) : Ct w 8 0 0 mtX12_clear [.ref 401, .int a0, .int a1, .int a2, .int a3] (go_mk tx μ) (fun r' M' => r' = some (.int r) ∧ M' = go_mk tx μ1) :=
  go_entry rfl (by decide) (Nat.le_of_ble_eq_true rfl) (cmX12_clear w tx _ μ a0 a1 a2 a3 _ h ⟨rfl, rfl⟩)
def fX12_half (μ : PM) (a0 : Int32) : Option (Int32 × PM) :=
  (if a0 = (-1) then go_let (pm_wi μ 402 5 0) fun μ5 => some ((0, μ5)) else (fX12_areSounds a0).bind fun q1 => (if q1 = 0 then some (((-2), μ)) else (if (μ.1 402 5) = 8 then some (((-2), μ)) else go_chk (117 + (μ.1 402 5)) 1792 <| go_let (pm_wi μ 402 ((117 + (μ.1 402 5)) : Int32).toNatClampNeg a0) fun μ2 => go_let (pm_wi μ2 402 5 ((μ2.1 402 5) + 1)) fun μ4 => some (((μ4.1 402 5), μ4)))))
set_option maxRecDepth 20000 in
set_option maxHeartbeats 4000000 in
theorem cmX12_half (w : go_Wd) (tx : Nat) (Q : Option Value → go_M → Prop) (μ : PM) (a0 : Int32) (out : Int32 × PM) (h : fX12_half μ a0 = some out) (hK : Q (some (.int out.1)) (go_mk tx out.2)) : Go w 2 0 0 mtX12_half 0 [(0, .ref 401), (1, .int a0)] [] (go_mk tx μ) (go_Z w Q) := by
  unfold fX12_half at h
  refine go_iload_n dX12_half_0 1 rfl ?_
  refine go_iconst (v := (-1)) dX12_half_1 (by decide) ?_
  refine go_icmp_ne 14 dX12_half_2 (by decide) (fun hc => ?_) (fun hc => ?_)
  · have h := go_ifn hc h
    refine go_iload_n dX12_half_14 1 rfl ?_
    obtain ⟨q1, hq1, h⟩ := go_bind h
    refine pp_callS (as := [.int a0]) (st := []) (rv := (some (.int q1))) (μ1 := μ) (st1 := [.int q1]) dX12_half_15 ll_X12_68 (ctX12_areSounds  hq1) rfl (Nat.le_of_ble_eq_true rfl) (Nat.le_of_ble_eq_true rfl) (go_Z_up w _) rfl rfl ?_
    refine go_if_eq 32 dX12_half_18 (by decide) (fun hc => ?_) (fun hc => ?_)
    · have h := go_ifp hc h
      refine go_bipush (v := (-2)) dX12_half_32 (by decide) ?_
      cases h
      exact go_iret dX12_half_34 rfl hK
    · have h := go_ifn hc h
      refine go_aload_n dX12_half_21 0 rfl ?_
      refine pp_getR dX12_half_22 ff_X12_7 (Or.inr ⟨_, rfl⟩) sh_401 rf_401_0 ?_
      refine go_iconst (v := 5) dX12_half_25 (by decide) ?_
      refine pp_ildc (q := 5) dX12_half_26 sh_402 (by decide) ?_
      refine go_bipush (v := 8) dX12_half_27 (by decide) ?_
      refine go_icmp_ne 35 dX12_half_29 (by decide) (fun hc => ?_) (fun hc => ?_)
      · have h := go_ifn hc h
        refine go_aload_n dX12_half_35 0 rfl ?_
        refine pp_getR dX12_half_36 ff_X12_7 (Or.inr ⟨_, rfl⟩) sh_401 rf_401_0 ?_
        refine go_bipush (v := 117) dX12_half_39 (by decide) ?_
        refine go_aload_n dX12_half_41 0 rfl ?_
        refine pp_getR dX12_half_42 ff_X12_7 (Or.inr ⟨_, rfl⟩) sh_401 rf_401_0 ?_
        refine go_iconst (v := 5) dX12_half_45 (by decide) ?_
        refine pp_ildc (q := 5) dX12_half_46 sh_402 (by decide) ?_
        refine go_iadd dX12_half_47 ?_
        refine go_iload_n dX12_half_48 1 rfl ?_
        obtain ⟨hz3, h⟩ := go_chk_e h
        obtain ⟨μ2, hμ2, h⟩ := go_let_e h
        refine pp_ist dX12_half_49 sh_402 hz3 hμ2 ?_
        refine go_aload_n dX12_half_50 0 rfl ?_
        refine pp_getR dX12_half_51 ff_X12_7 (Or.inr ⟨_, rfl⟩) sh_401 rf_401_0 ?_
        refine go_iconst (v := 5) dX12_half_54 (by decide) ?_
        refine go_dup2 dX12_half_55 rfl rfl ?_
        refine pp_ildc (q := 5) dX12_half_56 sh_402 (by decide) ?_
        refine go_iconst (v := 1) dX12_half_57 (by decide) ?_
        refine go_iadd dX12_half_58 ?_
        obtain ⟨μ4, hμ4, h⟩ := go_let_e h
        refine pp_istc (q := 5) dX12_half_59 sh_402 (by decide) hμ4 ?_
        refine go_aload_n dX12_half_60 0 rfl ?_
        refine pp_getR dX12_half_61 ff_X12_7 (Or.inr ⟨_, rfl⟩) sh_401 rf_401_0 ?_
        refine go_iconst (v := 5) dX12_half_64 (by decide) ?_
        refine pp_ildc (q := 5) dX12_half_65 sh_402 (by decide) ?_
        cases h
        exact go_iret dX12_half_66 rfl hK
      · have h := go_ifp hc h
        refine go_bipush (v := (-2)) dX12_half_32 (by decide) ?_
        cases h
        exact go_iret dX12_half_34 rfl hK
  · have h := go_ifp hc h
    refine go_aload_n dX12_half_5 0 rfl ?_
    refine pp_getR dX12_half_6 ff_X12_7 (Or.inr ⟨_, rfl⟩) sh_401 rf_401_0 ?_
    refine go_iconst (v := 5) dX12_half_9 (by decide) ?_
    refine go_iconst (v := 0) dX12_half_10 (by decide) ?_
    obtain ⟨μ5, hμ5, h⟩ := go_let_e h
    refine pp_istc (q := 5) dX12_half_11 sh_402 (by decide) hμ5 ?_
    refine go_iconst (v := 0) dX12_half_12 (by decide) ?_
    cases h
    exact go_iret dX12_half_13 rfl hK
theorem ctX12_half {w : go_Wd} {tx : Nat} {μ : PM} {a0 : Int32} {r : Int32} {μ1 : PM}  (h : fX12_half μ a0 = some (r, μ1)) : Ct w 2 0 0 mtX12_half [.ref 401, .int a0] (go_mk tx μ) (fun r' M' => r' = some (.int r) ∧ M' = go_mk tx μ1) :=
  go_entry rfl (by decide) (Nat.le_of_ble_eq_true rfl) (cmX12_half w tx _ μ a0 _ h ⟨rfl, rfl⟩)
def lbX12_joinOf_41 (μ : PM) (a0 : Int32) (a1 : Int32) (v3 : Int64) (v5 : Int32) : Option ((Int32) ⊕ (Int32)) :=
  (if (μ.1 402 0) ≤ v5 then some (.inr ((-1))) else go_chk (30 + v5) 1792 <| (if (lg_cmp (((μ.1 402 ((30 + v5) : Int32).toNatClampNeg) : Int32).toInt64) v3) = 0 then some (.inr (v5)) else some (.inl (v5 + 1))))
def fX12_joinOf (μ : PM) (a0 : Int32) (a1 : Int32) : Option (Int32) :=
  go_chk (117 + a0) 1792 <| go_chk (117 + a1) 1792 <| (fX12_lengthOf (μ.1 402 ((117 + a1) : Int32).toNatClampNeg)).bind fun q3 => (fX12_tens q3).bind fun q4 => go_chk (117 + a1) 1792 <| go_let (((((μ.1 402 ((117 + a0) : Int32).toNatClampNeg) : Int32).toInt64 * q4) + ((μ.1 402 ((117 + a1) : Int32).toNatClampNeg) : Int32).toInt64)) fun x6 => ((lp (fun s => lbX12_joinOf_41 μ a0 a1 x6 s) go_fuel 0).bind fun ρ8 => some ρ8)
def ggX12_joinOf_41 (w : go_Wd) (tx : Nat) (Q : Option Value → go_M → Prop) (μ : PM) (a0 : Int32) (a1 : Int32) (v3 : Int64) (s : Int32) : Prop := Go w 1 0 0 mtX12_joinOf 41 [(0, .ref 401), (3, .long v3), (5, .int s)] [] (go_mk tx μ) (go_Z w Q)
def eeX12_joinOf_41 (w : go_Wd) (tx : Nat) (Q : Option Value → go_M → Prop) (μ : PM) (a0 : Int32) (a1 : Int32) (v3 : Int64) (y : Int32) : Prop := Q (some (.int y)) (go_mk tx μ)
set_option maxRecDepth 20000 in
set_option maxHeartbeats 4000000 in
theorem lqX12_joinOf_41 (w : go_Wd) (tx : Nat) (Q : Option Value → go_M → Prop) (μ : PM) (a0 : Int32) (a1 : Int32) (v3 : Int64)  (v5 : Int32) (out : (Int32) ⊕ (Int32)) (h : lbX12_joinOf_41 μ a0 a1 v3 v5 = some out) (hK : go_out (ggX12_joinOf_41 w tx Q μ a0 a1 v3) (eeX12_joinOf_41 w tx Q μ a0 a1 v3) out) : ggX12_joinOf_41 w tx Q μ a0 a1 v3 v5 := by
  unfold lbX12_joinOf_41 at h
  show Go w 1 0 0 mtX12_joinOf 41 [(0, .ref 401), (3, .long v3), (5, .int v5)] [] (go_mk tx μ) (go_Z w Q)
  refine go_iload dX12_joinOf_41 2 rfl ?_
  refine go_aload_n dX12_joinOf_43 0 rfl ?_
  refine pp_getR dX12_joinOf_44 ff_X12_7 (Or.inr ⟨_, rfl⟩) sh_401 rf_401_0 ?_
  refine go_iconst (v := 0) dX12_joinOf_47 (by decide) ?_
  refine pp_ildc (q := 0) dX12_joinOf_48 sh_402 (by decide) ?_
  refine go_icmp_ge 77 dX12_joinOf_49 (by decide) (fun hc => ?_) (fun hc => ?_)
  · have h := go_ifp hc h
    refine go_iconst (v := (-1)) dX12_joinOf_77 (by decide) ?_
    cases h
    exact go_iret dX12_joinOf_78 rfl hK
  · have h := go_ifn hc h
    refine go_aload_n dX12_joinOf_52 0 rfl ?_
    refine pp_getR dX12_joinOf_53 ff_X12_7 (Or.inr ⟨_, rfl⟩) sh_401 rf_401_0 ?_
    refine go_bipush (v := 30) dX12_joinOf_56 (by decide) ?_
    refine go_iload dX12_joinOf_58 2 rfl ?_
    refine go_iadd dX12_joinOf_60 ?_
    obtain ⟨hz7, h⟩ := go_chk_e h
    refine pp_ild dX12_joinOf_61 sh_402 hz7 ?_
    refine go_i2l dX12_joinOf_62 ?_
    refine go_lload_n dX12_joinOf_63 1 rfl ?_
    refine go_lcmp dX12_joinOf_64 ?_
    refine go_if_ne 71 dX12_joinOf_65 (by decide) (fun hc => ?_) (fun hc => ?_)
    · have h := go_ifn hc h
      refine go_iinc (v := (v5 + 1)) dX12_joinOf_71 2 rfl rfl (by decide) rfl ?_
      show Go w 1 0 0 mtX12_joinOf 74 [(5, .int (v5 + 1)), (0, .ref 401), (3, .long v3)] [] (go_mk tx μ) (go_Z w Q)
      refine go_goto 41 dX12_joinOf_74 (by decide) ?_
      cases h
      have hK : Go w 1 0 0 mtX12_joinOf 41 [(0, .ref 401), (3, .long v3), (5, .int (v5 + 1))] [] (go_mk tx μ) (go_Z w Q) := hK
      exact go_pick [1, 2, 0] rfl hK
    · have h := go_ifp hc h
      refine go_iload dX12_joinOf_68 2 rfl ?_
      cases h
      exact go_iret dX12_joinOf_70 rfl hK
set_option maxRecDepth 20000 in
set_option maxHeartbeats 4000000 in
theorem cmX12_joinOf (w : go_Wd) (tx : Nat) (Q : Option Value → go_M → Prop) (μ : PM) (a0 : Int32) (a1 : Int32) (out : Int32) (h : fX12_joinOf μ a0 a1 = some out) (hK : Q (some (.int out)) (go_mk tx μ)) : Go w 1 0 0 mtX12_joinOf 0 [(0, .ref 401), (1, .int a0), (2, .int a1)] [] (go_mk tx μ) (go_Z w Q) := by
  unfold fX12_joinOf at h
  refine go_aload_n dX12_joinOf_0 0 rfl ?_
  refine pp_getR dX12_joinOf_1 ff_X12_7 (Or.inr ⟨_, rfl⟩) sh_401 rf_401_0 ?_
  refine go_bipush (v := 117) dX12_joinOf_4 (by decide) ?_
  refine go_iload_n dX12_joinOf_6 1 rfl ?_
  refine go_iadd dX12_joinOf_7 ?_
  obtain ⟨hz1, h⟩ := go_chk_e h
  refine pp_ild dX12_joinOf_8 sh_402 hz1 ?_
  refine go_i2l dX12_joinOf_9 ?_
  refine go_aload_n dX12_joinOf_10 0 rfl ?_
  refine pp_getR dX12_joinOf_11 ff_X12_7 (Or.inr ⟨_, rfl⟩) sh_401 rf_401_0 ?_
  refine go_bipush (v := 117) dX12_joinOf_14 (by decide) ?_
  refine go_iload_n dX12_joinOf_16 2 rfl ?_
  refine go_iadd dX12_joinOf_17 ?_
  obtain ⟨hz2, h⟩ := go_chk_e h
  refine pp_ild dX12_joinOf_18 sh_402 hz2 ?_
  obtain ⟨q3, hq3, h⟩ := go_bind h
  refine pp_callS (as := [.int (μ.1 402 ((117 + a1) : Int32).toNatClampNeg)]) (st := [.long ((μ.1 402 ((117 + a0) : Int32).toNatClampNeg) : Int32).toInt64]) (rv := (some (.int q3))) (μ1 := μ) (st1 := [.int q3, .long ((μ.1 402 ((117 + a0) : Int32).toNatClampNeg) : Int32).toInt64]) dX12_joinOf_19 ll_X12_80 (ctX12_lengthOf  hq3) rfl (Nat.le_of_ble_eq_true rfl) (Nat.le_of_ble_eq_true rfl) (go_Z_up w _) rfl rfl ?_
  obtain ⟨q4, hq4, h⟩ := go_bind h
  refine pp_callS (as := [.int q3]) (st := [.long ((μ.1 402 ((117 + a0) : Int32).toNatClampNeg) : Int32).toInt64]) (rv := (some (.long q4))) (μ1 := μ) (st1 := [.long q4, .long ((μ.1 402 ((117 + a0) : Int32).toNatClampNeg) : Int32).toInt64]) dX12_joinOf_22 ll_X12_432 (ctX12_tens  hq4) rfl (Nat.le_of_ble_eq_true rfl) (Nat.le_of_ble_eq_true rfl) (go_Z_up w _) rfl rfl ?_
  refine go_lmul dX12_joinOf_25 ?_
  refine go_aload_n dX12_joinOf_26 0 rfl ?_
  refine pp_getR dX12_joinOf_27 ff_X12_7 (Or.inr ⟨_, rfl⟩) sh_401 rf_401_0 ?_
  refine go_bipush (v := 117) dX12_joinOf_30 (by decide) ?_
  refine go_iload_n dX12_joinOf_32 2 rfl ?_
  refine go_iadd dX12_joinOf_33 ?_
  obtain ⟨hz5, h⟩ := go_chk_e h
  refine pp_ild dX12_joinOf_34 sh_402 hz5 ?_
  refine go_i2l dX12_joinOf_35 ?_
  refine go_ladd dX12_joinOf_36 ?_
  obtain ⟨x6, hx6, h⟩ := go_let_e h
  refine go_topl hx6 ?_
  refine go_lstore_n dX12_joinOf_37 (by decide) rfl ?_
  show Go w 1 0 0 mtX12_joinOf 38 [(3, .long x6), (0, .ref 401), (1, .int a0), (2, .int a1)] [] (go_mk tx μ) (go_Z w Q)
  refine go_iconst (v := 0) dX12_joinOf_38 (by decide) ?_
  refine go_istore dX12_joinOf_39 (by decide) rfl ?_
  show Go w 1 0 0 mtX12_joinOf 41 [(5, .int 0), (3, .long x6), (0, .ref 401), (1, .int a0), (2, .int a1)] [] (go_mk tx μ) (go_Z w Q)
  obtain ⟨ρ8, hρ8, h⟩ := go_bind h
  refine go_pick [2, 1, 0] rfl ?_
  refine go_lp (G := ggX12_joinOf_41 w tx Q μ a0 a1 x6) (E := eeX12_joinOf_41 w tx Q μ a0 a1 x6) (fun s out h hK => lqX12_joinOf_41 w tx Q μ a0 a1 x6  s out h hK) go_fuel 0 ρ8 hρ8 ?_
  cases h
  exact hK
theorem ctX12_joinOf {w : go_Wd} {tx : Nat} {μ : PM} {a0 : Int32} {a1 : Int32} {r : Int32}  (h : fX12_joinOf μ a0 a1 = some r) : Ct w 1 0 0 mtX12_joinOf [.ref 401, .int a0, .int a1] (go_mk tx μ) (fun r' M' => r' = some (.int r) ∧ M' = go_mk tx μ) :=
  go_entry rfl (by decide) (Nat.le_of_ble_eq_true rfl) (cmX12_joinOf w tx _ μ a0 a1 _ h ⟨rfl, rfl⟩)
def jjX12_layPairs_126_33 (μ : PM)  (v1 : Int32) (v2 : Int32) (v3 : Int32) (v4 : Int32) (s1 : Int32) (s2 : Int32) : Option ((Int32 × PM) ⊕ ((PM) ⊕ ((Int32 × PM) ⊕ ((PM) ⊕ ((Int32 × PM) ⊕ (PM)))))) :=
  go_chk s1 256 <| go_let (pm_wi μ 413 s1.toNatClampNeg s2) fun μ8 => some (.inl ((v4 + 1), μ8))
def lbX12_layPairs_33  (v1 : Int32) (v2 : Int32) (v3 : Int32) (v4 : Int32) (μ : PM) : Option ((Int32 × PM) ⊕ ((PM) ⊕ ((Int32 × PM) ⊕ ((PM) ⊕ ((Int32 × PM) ⊕ (PM)))))) :=
  (if v1 ≤ v4 then some (.inr (.inl μ)) else (if v3 = v4 then some (.inl ((v4 + 1), μ)) else (if (fX12_has v2 v3) = 0 then some (.inl ((v4 + 1), μ)) else (if (fX12_has v2 v4) = 0 then some (.inl ((v4 + 1), μ)) else (fX12_joinOf μ v3 v4).bind fun q3 => (if q3 = (-1) then some (.inl ((v4 + 1), μ)) else go_chk ((v2 &&& (((1 : Int32) <<< (v3 &&& 31)) ^^^ (-1))) &&& (((1 : Int32) <<< (v4 &&& 31)) ^^^ (-1))) 256 <| go_let ((1 + (μ.1 413 (((v2 &&& (((1 : Int32) <<< (v3 &&& 31)) ^^^ (-1))) &&& (((1 : Int32) <<< (v4 &&& 31)) ^^^ (-1))) : Int32).toNatClampNeg))) fun x5 => go_chk v2 256 <| (if x5 ≤ (μ.1 413 v2.toNatClampNeg) then go_chk v2 256 <| jjX12_layPairs_126_33 μ v1 v2 v3 v4 v2 ((μ.1 413 v2.toNatClampNeg)) else jjX12_layPairs_126_33 μ v1 v2 v3 v4 v2 x5))))))
def lbX12_layPairs_25  (v1 : Int32) (v2 : Int32) (v3 : Int32) (μ : PM) : Option ((Int32 × PM) ⊕ ((PM) ⊕ ((Int32 × PM) ⊕ (PM)))) :=
  (if v1 ≤ v3 then some (.inr (.inl μ)) else ((lp (fun s => lbX12_layPairs_33 v1 v2 v3 s.1 s.2) go_fuel (0, μ)).bind fun ρ10 => go_cs ρ10 (fun e11 => some (.inl ((v3 + 1), e11))) (fun y => some y)))
def lbX12_layPairs_9  (v1 : Int32) (v2 : Int32) (μ : PM) : Option ((Int32 × PM) ⊕ (PM)) :=
  (if ((1 : Int32) <<< (v1 &&& 31)) ≤ v2 then some (.inr (μ)) else go_chk v2 256 <| go_let (pm_wi μ 413 v2.toNatClampNeg 0) fun μ1 => ((lp (fun s => lbX12_layPairs_25 v1 v2 s.1 s.2) go_fuel (0, μ1)).bind fun ρ12 => go_cs ρ12 (fun e13 => some (.inl ((v2 + 1), e13))) (fun y => some y)))
def fX12_layPairs (μ : PM)  : Option (PM) :=
  ((lp (fun s => lbX12_layPairs_9 ((μ.1 402 5)) s.1 s.2) go_fuel (0, μ)).bind fun ρ14 => some ρ14)
def ggX12_layPairs_33 (w : go_Wd) (tx : Nat) (Q : Option Value → go_M → Prop)  (v1 : Int32) (v2 : Int32) (v3 : Int32) (s : Int32 × PM) : Prop := Go w 2 0 0 mtX12_layPairs 33 [(0, .ref 401), (1, .int v1), (2, .int v2), (3, .int v3), (4, .int s.1)] [] (go_mk tx s.2) (go_Z w Q)
def ggX12_layPairs_25 (w : go_Wd) (tx : Nat) (Q : Option Value → go_M → Prop)  (v1 : Int32) (v2 : Int32) (s : Int32 × PM) : Prop := Go w 2 0 0 mtX12_layPairs 25 [(0, .ref 401), (1, .int v1), (2, .int v2), (3, .int s.1)] [] (go_mk tx s.2) (go_Z w Q)
def ggX12_layPairs_9 (w : go_Wd) (tx : Nat) (Q : Option Value → go_M → Prop)  (v1 : Int32) (s : Int32 × PM) : Prop := Go w 2 0 0 mtX12_layPairs 9 [(0, .ref 401), (1, .int v1), (2, .int s.1)] [] (go_mk tx s.2) (go_Z w Q)
def eeX12_layPairs_9 (w : go_Wd) (tx : Nat) (Q : Option Value → go_M → Prop)  (v1 : Int32) (y : PM) : Prop := Q none (go_mk tx y)
def eeX12_layPairs_25 (w : go_Wd) (tx : Nat) (Q : Option Value → go_M → Prop)  (v1 : Int32) (v2 : Int32) : (PM) ⊕ ((Int32 × PM) ⊕ (PM)) → Prop
  | .inl e => Go w 2 0 0 mtX12_layPairs 139 [(0, .ref 401), (1, .int v1), (2, .int v2)] [] (go_mk tx e) (go_Z w Q)
  | .inr y => go_out (ggX12_layPairs_9 w tx Q  v1) (eeX12_layPairs_9 w tx Q  v1) y
def eeX12_layPairs_33 (w : go_Wd) (tx : Nat) (Q : Option Value → go_M → Prop)  (v1 : Int32) (v2 : Int32) (v3 : Int32) : (PM) ⊕ ((Int32 × PM) ⊕ ((PM) ⊕ ((Int32 × PM) ⊕ (PM)))) → Prop
  | .inl e => Go w 2 0 0 mtX12_layPairs 133 [(0, .ref 401), (1, .int v1), (2, .int v2), (3, .int v3)] [] (go_mk tx e) (go_Z w Q)
  | .inr y => go_out (ggX12_layPairs_25 w tx Q  v1 v2) (eeX12_layPairs_25 w tx Q  v1 v2) y
set_option maxRecDepth 20000 in
set_option maxHeartbeats 4000000 in
theorem jqX12_layPairs_126_33 (w : go_Wd) (tx : Nat) (Q : Option Value → go_M → Prop) (μ : PM)  (v1 : Int32) (v2 : Int32) (v3 : Int32) (v4 : Int32)  (s1 : Int32) (s2 : Int32)  (out : (Int32 × PM) ⊕ ((PM) ⊕ ((Int32 × PM) ⊕ ((PM) ⊕ ((Int32 × PM) ⊕ (PM)))))) (h : jjX12_layPairs_126_33 μ v1 v2 v3 v4 s1 s2 = some out) (hK : go_out (ggX12_layPairs_33 w tx Q  v1 v2 v3) (eeX12_layPairs_33 w tx Q  v1 v2 v3) out) : Go w 2 0 0 mtX12_layPairs 126 [(0, .ref 401), (1, .int v1), (2, .int v2), (3, .int v3), (4, .int v4)] [.int s2, .int s1, .ref 413] (go_mk tx μ) (go_Z w Q) := by
  unfold jjX12_layPairs_126_33 at h
  obtain ⟨hz9, h⟩ := go_chk_e h
  obtain ⟨μ8, hμ8, h⟩ := go_let_e h
  refine pp_ist dX12_layPairs_126 sh_413 hz9 hμ8 ?_
  refine go_iinc (v := (v4 + 1)) dX12_layPairs_127 4 rfl rfl (by decide) rfl ?_
  show Go w 2 0 0 mtX12_layPairs 130 [(4, .int (v4 + 1)), (0, .ref 401), (1, .int v1), (2, .int v2), (3, .int v3)] [] (go_mk tx μ8) (go_Z w Q)
  refine go_goto 33 dX12_layPairs_130 (by decide) ?_
  cases h
  have hK : Go w 2 0 0 mtX12_layPairs 33 [(0, .ref 401), (1, .int v1), (2, .int v2), (3, .int v3), (4, .int (v4 + 1))] [] (go_mk tx μ8) (go_Z w Q) := hK
  exact go_pick [1, 2, 3, 4, 0] rfl hK
set_option maxRecDepth 20000 in
set_option maxHeartbeats 4000000 in
theorem lqX12_layPairs_33 (w : go_Wd) (tx : Nat) (Q : Option Value → go_M → Prop)  (v1 : Int32) (v2 : Int32) (v3 : Int32)  (v4 : Int32) (μ : PM) (out : (Int32 × PM) ⊕ ((PM) ⊕ ((Int32 × PM) ⊕ ((PM) ⊕ ((Int32 × PM) ⊕ (PM)))))) (h : lbX12_layPairs_33 v1 v2 v3 v4 μ = some out) (hK : go_out (ggX12_layPairs_33 w tx Q  v1 v2 v3) (eeX12_layPairs_33 w tx Q  v1 v2 v3) out) : ggX12_layPairs_33 w tx Q  v1 v2 v3 (v4, μ) := by
  unfold lbX12_layPairs_33 at h
  show Go w 2 0 0 mtX12_layPairs 33 [(0, .ref 401), (1, .int v1), (2, .int v2), (3, .int v3), (4, .int v4)] [] (go_mk tx μ) (go_Z w Q)
  refine go_iload dX12_layPairs_33 4 rfl ?_
  refine go_iload_n dX12_layPairs_35 1 rfl ?_
  refine go_icmp_ge 133 dX12_layPairs_36 (by decide) (fun hc => ?_) (fun hc => ?_)
  · have h := go_ifp hc h
    cases h
    have hK : Go w 2 0 0 mtX12_layPairs 133 [(0, .ref 401), (1, .int v1), (2, .int v2), (3, .int v3)] [] (go_mk tx μ) (go_Z w Q) := hK
    exact go_pick [0, 1, 2, 3] rfl hK
  · have h := go_ifn hc h
    refine go_iload_n dX12_layPairs_39 3 rfl ?_
    refine go_iload dX12_layPairs_40 4 rfl ?_
    refine go_icmp_eq 127 dX12_layPairs_42 (by decide) (fun hc => ?_) (fun hc => ?_)
    · have h := go_ifp hc h
      refine go_iinc (v := (v4 + 1)) dX12_layPairs_127 4 rfl rfl (by decide) rfl ?_
      show Go w 2 0 0 mtX12_layPairs 130 [(4, .int (v4 + 1)), (0, .ref 401), (1, .int v1), (2, .int v2), (3, .int v3)] [] (go_mk tx μ) (go_Z w Q)
      refine go_goto 33 dX12_layPairs_130 (by decide) ?_
      cases h
      have hK : Go w 2 0 0 mtX12_layPairs 33 [(0, .ref 401), (1, .int v1), (2, .int v2), (3, .int v3), (4, .int (v4 + 1))] [] (go_mk tx μ) (go_Z w Q) := hK
      exact go_pick [1, 2, 3, 4, 0] rfl hK
    · have h := go_ifn hc h
      refine go_iload_n dX12_layPairs_45 2 rfl ?_
      refine go_iload_n dX12_layPairs_46 3 rfl ?_
      refine pp_callS (as := [.int v2, .int v3]) (st := []) (rv := (some (.int (fX12_has v2 v3)))) (μ1 := μ) (st1 := [.int (fX12_has v2 v3)]) dX12_layPairs_47 ll_X12_239 (ctX12_has  rfl) rfl (Nat.le_of_ble_eq_true rfl) (Nat.le_of_ble_eq_true rfl) (go_Z_up w _) rfl rfl ?_
      refine go_if_eq 127 dX12_layPairs_50 (by decide) (fun hc => ?_) (fun hc => ?_)
      · have h := go_ifp hc h
        refine go_iinc (v := (v4 + 1)) dX12_layPairs_127 4 rfl rfl (by decide) rfl ?_
        show Go w 2 0 0 mtX12_layPairs 130 [(4, .int (v4 + 1)), (0, .ref 401), (1, .int v1), (2, .int v2), (3, .int v3)] [] (go_mk tx μ) (go_Z w Q)
        refine go_goto 33 dX12_layPairs_130 (by decide) ?_
        cases h
        have hK : Go w 2 0 0 mtX12_layPairs 33 [(0, .ref 401), (1, .int v1), (2, .int v2), (3, .int v3), (4, .int (v4 + 1))] [] (go_mk tx μ) (go_Z w Q) := hK
        exact go_pick [1, 2, 3, 4, 0] rfl hK
      · have h := go_ifn hc h
        refine go_iload_n dX12_layPairs_53 2 rfl ?_
        refine go_iload dX12_layPairs_54 4 rfl ?_
        refine pp_callS (as := [.int v2, .int v4]) (st := []) (rv := (some (.int (fX12_has v2 v4)))) (μ1 := μ) (st1 := [.int (fX12_has v2 v4)]) dX12_layPairs_56 ll_X12_239 (ctX12_has  rfl) rfl (Nat.le_of_ble_eq_true rfl) (Nat.le_of_ble_eq_true rfl) (go_Z_up w _) rfl rfl ?_
        refine go_if_eq 127 dX12_layPairs_59 (by decide) (fun hc => ?_) (fun hc => ?_)
        · have h := go_ifp hc h
          refine go_iinc (v := (v4 + 1)) dX12_layPairs_127 4 rfl rfl (by decide) rfl ?_
          show Go w 2 0 0 mtX12_layPairs 130 [(4, .int (v4 + 1)), (0, .ref 401), (1, .int v1), (2, .int v2), (3, .int v3)] [] (go_mk tx μ) (go_Z w Q)
          refine go_goto 33 dX12_layPairs_130 (by decide) ?_
          cases h
          have hK : Go w 2 0 0 mtX12_layPairs 33 [(0, .ref 401), (1, .int v1), (2, .int v2), (3, .int v3), (4, .int (v4 + 1))] [] (go_mk tx μ) (go_Z w Q) := hK
          exact go_pick [1, 2, 3, 4, 0] rfl hK
        · have h := go_ifn hc h
          refine go_aload_n dX12_layPairs_62 0 rfl ?_
          refine go_iload_n dX12_layPairs_63 3 rfl ?_
          refine go_iload dX12_layPairs_64 4 rfl ?_
          obtain ⟨q3, hq3, h⟩ := go_bind h
          refine pp_callV (as := [.int v3, .int v4]) (st := []) (rv := (some (.int q3))) (μ1 := μ) (st1 := [.int q3]) dX12_layPairs_66 ll_X12_439 sh_401 (by decide) rfl (ctX12_joinOf  hq3) rfl (Nat.le_of_ble_eq_true rfl) (Nat.le_of_ble_eq_true rfl) (go_Z_up w _) rfl rfl ?_
          refine go_iconst (v := (-1)) dX12_layPairs_69 (by decide) ?_
          refine go_icmp_ne 76 dX12_layPairs_70 (by decide) (fun hc => ?_) (fun hc => ?_)
          · have h := go_ifn hc h
            refine go_iconst (v := 1) dX12_layPairs_76 (by decide) ?_
            refine go_aload_n dX12_layPairs_77 0 rfl ?_
            refine pp_getR dX12_layPairs_78 ff_X12_56 (Or.inr ⟨_, rfl⟩) sh_401 rf_401_28 ?_
            refine go_iload_n dX12_layPairs_81 2 rfl ?_
            refine go_iconst (v := 1) dX12_layPairs_82 (by decide) ?_
            refine go_iload_n dX12_layPairs_83 3 rfl ?_
            refine go_ishl dX12_layPairs_84 ?_
            refine go_iconst (v := (-1)) dX12_layPairs_85 (by decide) ?_
            refine go_ixor dX12_layPairs_86 ?_
            refine go_iand dX12_layPairs_87 ?_
            refine go_iconst (v := 1) dX12_layPairs_88 (by decide) ?_
            refine go_iload dX12_layPairs_89 4 rfl ?_
            refine go_ishl dX12_layPairs_91 ?_
            refine go_iconst (v := (-1)) dX12_layPairs_92 (by decide) ?_
            refine go_ixor dX12_layPairs_93 ?_
            refine go_iand dX12_layPairs_94 ?_
            obtain ⟨hz4, h⟩ := go_chk_e h
            refine pp_ild dX12_layPairs_95 sh_413 hz4 ?_
            refine go_iadd dX12_layPairs_96 ?_
            obtain ⟨x5, hx5, h⟩ := go_let_e h
            refine go_top hx5 ?_
            refine go_istore dX12_layPairs_97 (by decide) rfl ?_
            show Go w 2 0 0 mtX12_layPairs 99 [(5, .int x5), (0, .ref 401), (1, .int v1), (2, .int v2), (3, .int v3), (4, .int v4)] [] (go_mk tx μ) (go_Z w Q)
            refine go_aload_n dX12_layPairs_99 1 rfl ?_
            refine pp_getR dX12_layPairs_100 ff_X12_56 (Or.inr ⟨_, rfl⟩) sh_401 rf_401_28 ?_
            refine go_iload_n dX12_layPairs_103 3 rfl ?_
            refine go_iload dX12_layPairs_104 0 rfl ?_
            refine go_aload_n dX12_layPairs_106 1 rfl ?_
            refine pp_getR dX12_layPairs_107 ff_X12_56 (Or.inr ⟨_, rfl⟩) sh_401 rf_401_28 ?_
            refine go_iload_n dX12_layPairs_110 3 rfl ?_
            obtain ⟨hz6, h⟩ := go_chk_e h
            refine pp_ild dX12_layPairs_111 sh_413 hz6 ?_
            refine go_icmp_le 120 dX12_layPairs_112 (by decide) (fun hc => ?_) (fun hc => ?_)
            · have h := go_ifp hc h
              refine go_aload_n dX12_layPairs_120 1 rfl ?_
              refine pp_getR dX12_layPairs_121 ff_X12_56 (Or.inr ⟨_, rfl⟩) sh_401 rf_401_28 ?_
              refine go_iload_n dX12_layPairs_124 3 rfl ?_
              obtain ⟨hz7, h⟩ := go_chk_e h
              refine pp_ild dX12_layPairs_125 sh_413 hz7 ?_
              refine go_pick [1, 2, 3, 4, 5] rfl ?_
              exact jqX12_layPairs_126_33 w tx Q μ  v1 v2 v3 v4  v2 ((μ.1 413 v2.toNatClampNeg))  _ h hK
            · have h := go_ifn hc h
              refine go_iload dX12_layPairs_115 0 rfl ?_
              refine go_goto 126 dX12_layPairs_117 (by decide) ?_
              refine go_pick [1, 2, 3, 4, 5] rfl ?_
              exact jqX12_layPairs_126_33 w tx Q μ  v1 v2 v3 v4  v2 x5  _ h hK
          · have h := go_ifp hc h
            refine go_goto 127 dX12_layPairs_73 (by decide) ?_
            refine go_iinc (v := (v4 + 1)) dX12_layPairs_127 4 rfl rfl (by decide) rfl ?_
            show Go w 2 0 0 mtX12_layPairs 130 [(4, .int (v4 + 1)), (0, .ref 401), (1, .int v1), (2, .int v2), (3, .int v3)] [] (go_mk tx μ) (go_Z w Q)
            refine go_goto 33 dX12_layPairs_130 (by decide) ?_
            cases h
            have hK : Go w 2 0 0 mtX12_layPairs 33 [(0, .ref 401), (1, .int v1), (2, .int v2), (3, .int v3), (4, .int (v4 + 1))] [] (go_mk tx μ) (go_Z w Q) := hK
            exact go_pick [1, 2, 3, 4, 0] rfl hK
set_option maxRecDepth 20000 in
set_option maxHeartbeats 4000000 in
theorem lqX12_layPairs_25 (w : go_Wd) (tx : Nat) (Q : Option Value → go_M → Prop)  (v1 : Int32) (v2 : Int32)  (v3 : Int32) (μ : PM) (out : (Int32 × PM) ⊕ ((PM) ⊕ ((Int32 × PM) ⊕ (PM)))) (h : lbX12_layPairs_25 v1 v2 v3 μ = some out) (hK : go_out (ggX12_layPairs_25 w tx Q  v1 v2) (eeX12_layPairs_25 w tx Q  v1 v2) out) : ggX12_layPairs_25 w tx Q  v1 v2 (v3, μ) := by
  unfold lbX12_layPairs_25 at h
  show Go w 2 0 0 mtX12_layPairs 25 [(0, .ref 401), (1, .int v1), (2, .int v2), (3, .int v3)] [] (go_mk tx μ) (go_Z w Q)
  refine go_iload_n dX12_layPairs_25 3 rfl ?_
  refine go_iload_n dX12_layPairs_26 1 rfl ?_
  refine go_icmp_ge 139 dX12_layPairs_27 (by decide) (fun hc => ?_) (fun hc => ?_)
  · have h := go_ifp hc h
    cases h
    have hK : Go w 2 0 0 mtX12_layPairs 139 [(0, .ref 401), (1, .int v1), (2, .int v2)] [] (go_mk tx μ) (go_Z w Q) := hK
    exact go_pick [0, 1, 2] rfl hK
  · have h := go_ifn hc h
    refine go_iconst (v := 0) dX12_layPairs_30 (by decide) ?_
    refine go_istore dX12_layPairs_31 (by decide) rfl ?_
    show Go w 2 0 0 mtX12_layPairs 33 [(4, .int 0), (0, .ref 401), (1, .int v1), (2, .int v2), (3, .int v3)] [] (go_mk tx μ) (go_Z w Q)
    obtain ⟨ρ10, hρ10, h⟩ := go_bind h
    refine go_pick [1, 2, 3, 4, 0] rfl ?_
    refine go_lp (G := ggX12_layPairs_33 w tx Q  v1 v2 v3) (E := eeX12_layPairs_33 w tx Q  v1 v2 v3) (fun s out h hK => lqX12_layPairs_33 w tx Q  v1 v2 v3  s.1 s.2 out h hK) go_fuel (0, μ) ρ10 hρ10 ?_
    rcases ρ10 with e11 | y
    · have h := go_csl h
      show Go w 2 0 0 mtX12_layPairs 133 [(0, .ref 401), (1, .int v1), (2, .int v2), (3, .int v3)] [] (go_mk tx e11) (go_Z w Q)
      refine go_iinc (v := (v3 + 1)) dX12_layPairs_133 3 rfl rfl (by decide) rfl ?_
      show Go w 2 0 0 mtX12_layPairs 136 [(3, .int (v3 + 1)), (0, .ref 401), (1, .int v1), (2, .int v2)] [] (go_mk tx e11) (go_Z w Q)
      refine go_goto 25 dX12_layPairs_136 (by decide) ?_
      cases h
      have hK : Go w 2 0 0 mtX12_layPairs 25 [(0, .ref 401), (1, .int v1), (2, .int v2), (3, .int (v3 + 1))] [] (go_mk tx e11) (go_Z w Q) := hK
      exact go_pick [1, 2, 3, 0] rfl hK
    · have h := go_csr h
      cases h
      exact hK
set_option maxRecDepth 20000 in
set_option maxHeartbeats 4000000 in
theorem lqX12_layPairs_9 (w : go_Wd) (tx : Nat) (Q : Option Value → go_M → Prop)  (v1 : Int32)  (v2 : Int32) (μ : PM) (out : (Int32 × PM) ⊕ (PM)) (h : lbX12_layPairs_9 v1 v2 μ = some out) (hK : go_out (ggX12_layPairs_9 w tx Q  v1) (eeX12_layPairs_9 w tx Q  v1) out) : ggX12_layPairs_9 w tx Q  v1 (v2, μ) := by
  unfold lbX12_layPairs_9 at h
  show Go w 2 0 0 mtX12_layPairs 9 [(0, .ref 401), (1, .int v1), (2, .int v2)] [] (go_mk tx μ) (go_Z w Q)
  refine go_iload_n dX12_layPairs_9 2 rfl ?_
  refine go_iconst (v := 1) dX12_layPairs_10 (by decide) ?_
  refine go_iload_n dX12_layPairs_11 1 rfl ?_
  refine go_ishl dX12_layPairs_12 ?_
  refine go_icmp_ge 145 dX12_layPairs_13 (by decide) (fun hc => ?_) (fun hc => ?_)
  · have h := go_ifp hc h
    cases h
    exact go_vret dX12_layPairs_145 rfl hK
  · have h := go_ifn hc h
    refine go_aload_n dX12_layPairs_16 0 rfl ?_
    refine pp_getR dX12_layPairs_17 ff_X12_56 (Or.inr ⟨_, rfl⟩) sh_401 rf_401_28 ?_
    refine go_iload_n dX12_layPairs_20 2 rfl ?_
    refine go_iconst (v := 0) dX12_layPairs_21 (by decide) ?_
    obtain ⟨hz2, h⟩ := go_chk_e h
    obtain ⟨μ1, hμ1, h⟩ := go_let_e h
    refine pp_ist dX12_layPairs_22 sh_413 hz2 hμ1 ?_
    refine go_iconst (v := 0) dX12_layPairs_23 (by decide) ?_
    refine go_istore_n dX12_layPairs_24 (by decide) rfl ?_
    show Go w 2 0 0 mtX12_layPairs 25 [(3, .int 0), (0, .ref 401), (1, .int v1), (2, .int v2)] [] (go_mk tx μ1) (go_Z w Q)
    obtain ⟨ρ12, hρ12, h⟩ := go_bind h
    refine go_pick [1, 2, 3, 0] rfl ?_
    refine go_lp (G := ggX12_layPairs_25 w tx Q  v1 v2) (E := eeX12_layPairs_25 w tx Q  v1 v2) (fun s out h hK => lqX12_layPairs_25 w tx Q  v1 v2  s.1 s.2 out h hK) go_fuel (0, μ1) ρ12 hρ12 ?_
    rcases ρ12 with e13 | y
    · have h := go_csl h
      show Go w 2 0 0 mtX12_layPairs 139 [(0, .ref 401), (1, .int v1), (2, .int v2)] [] (go_mk tx e13) (go_Z w Q)
      refine go_iinc (v := (v2 + 1)) dX12_layPairs_139 2 rfl rfl (by decide) rfl ?_
      show Go w 2 0 0 mtX12_layPairs 142 [(2, .int (v2 + 1)), (0, .ref 401), (1, .int v1)] [] (go_mk tx e13) (go_Z w Q)
      refine go_goto 9 dX12_layPairs_142 (by decide) ?_
      cases h
      have hK : Go w 2 0 0 mtX12_layPairs 9 [(0, .ref 401), (1, .int v1), (2, .int (v2 + 1))] [] (go_mk tx e13) (go_Z w Q) := hK
      exact go_pick [1, 2, 0] rfl hK
    · have h := go_csr h
      cases h
      exact hK
set_option maxRecDepth 20000 in
set_option maxHeartbeats 4000000 in
theorem cmX12_layPairs (w : go_Wd) (tx : Nat) (Q : Option Value → go_M → Prop) (μ : PM)  (out : PM) (h : fX12_layPairs μ = some out) (hK : Q none (go_mk tx out)) : Go w 2 0 0 mtX12_layPairs 0 [(0, .ref 401)] [] (go_mk tx μ) (go_Z w Q) := by
  unfold fX12_layPairs at h
  refine go_aload_n dX12_layPairs_0 0 rfl ?_
  refine pp_getR dX12_layPairs_1 ff_X12_7 (Or.inr ⟨_, rfl⟩) sh_401 rf_401_0 ?_
  refine go_iconst (v := 5) dX12_layPairs_4 (by decide) ?_
  refine pp_ildc (q := 5) dX12_layPairs_5 sh_402 (by decide) ?_
  refine go_istore_n dX12_layPairs_6 (by decide) rfl ?_
  show Go w 2 0 0 mtX12_layPairs 7 [(1, .int (μ.1 402 5)), (0, .ref 401)] [] (go_mk tx μ) (go_Z w Q)
  refine go_iconst (v := 0) dX12_layPairs_7 (by decide) ?_
  refine go_istore_n dX12_layPairs_8 (by decide) rfl ?_
  show Go w 2 0 0 mtX12_layPairs 9 [(2, .int 0), (1, .int (μ.1 402 5)), (0, .ref 401)] [] (go_mk tx μ) (go_Z w Q)
  obtain ⟨ρ14, hρ14, h⟩ := go_bind h
  refine go_pick [2, 1, 0] rfl ?_
  refine go_lp (G := ggX12_layPairs_9 w tx Q  ((μ.1 402 5))) (E := eeX12_layPairs_9 w tx Q  ((μ.1 402 5))) (fun s out h hK => lqX12_layPairs_9 w tx Q  ((μ.1 402 5))  s.1 s.2 out h hK) go_fuel (0, μ) ρ14 hρ14 ?_
  cases h
  exact hK
theorem ctX12_layPairs {w : go_Wd} {tx : Nat} {μ : PM}  {μ1 : PM}  (h : fX12_layPairs μ = some μ1) : Ct w 2 0 0 mtX12_layPairs [.ref 401] (go_mk tx μ) (fun r' M' => r' = none ∧ M' = go_mk tx μ1) :=
  go_entry rfl (by decide) (Nat.le_of_ble_eq_true rfl) (cmX12_layPairs w tx _ μ  _ h ⟨rfl, rfl⟩)