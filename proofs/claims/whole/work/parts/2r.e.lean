def lbX12_lowestPair_2 (μ : PM) (a0 : Int32)  (v2 : Int32) : Option ((Int32) ⊕ (Int32)) :=
  (if 64 ≤ v2 then some (.inr ((-1))) else (if (v2 / 8) = (jrem v2 8) then some (.inl (v2 + 1)) else (if (fX12_has a0 (v2 / 8)) = 0 then some (.inl (v2 + 1)) else (if (fX12_has a0 (jrem v2 8)) = 0 then some (.inl (v2 + 1)) else (fX12_joinOf μ (v2 / 8) (jrem v2 8)).bind fun q1 => (if q1 = (-1) then some (.inl (v2 + 1)) else go_chk ((a0 &&& (((1 : Int32) <<< ((v2 / 8) &&& 31)) ^^^ (-1))) &&& (((1 : Int32) <<< ((jrem v2 8) &&& 31)) ^^^ (-1))) 256 <| go_chk a0 256 <| (if (μ.1 413 (((a0 &&& (((1 : Int32) <<< ((v2 / 8) &&& 31)) ^^^ (-1))) &&& (((1 : Int32) <<< ((jrem v2 8) &&& 31)) ^^^ (-1))) : Int32).toNatClampNeg) = ((μ.1 413 a0.toNatClampNeg) - 1) then some (.inr (v2)) else some (.inl (v2 + 1))))))))
def fX12_lowestPair (μ : PM) (a0 : Int32) : Option (Int32) :=
  ((lp (fun s => lbX12_lowestPair_2 μ a0 s) go_fuel 0).bind fun ρ4 => some ρ4)
def ggX12_lowestPair_2 (w : go_Wd) (tx : Nat) (Q : Option Value → go_M → Prop) (μ : PM) (a0 : Int32)  (s : Int32) : Prop := Go w 2 0 0 mtX12_lowestPair 2 [(0, .ref 401), (1, .int a0), (2, .int s)] [] (go_mk tx μ) (go_Z w Q)
def eeX12_lowestPair_2 (w : go_Wd) (tx : Nat) (Q : Option Value → go_M → Prop) (μ : PM) (a0 : Int32)  (y : Int32) : Prop := Q (some (.int y)) (go_mk tx μ)
set_option maxRecDepth 20000 in
set_option maxHeartbeats 4000000 in
theorem lqX12_lowestPair_2 (w : go_Wd) (tx : Nat) (Q : Option Value → go_M → Prop) (μ : PM) (a0 : Int32)   (v2 : Int32) (out : (Int32) ⊕ (Int32)) (h : lbX12_lowestPair_2 μ a0  v2 = some out) (hK : go_out (ggX12_lowestPair_2 w tx Q μ a0 ) (eeX12_lowestPair_2 w tx Q μ a0 ) out) : ggX12_lowestPair_2 w tx Q μ a0  v2 := by
  unfold lbX12_lowestPair_2 at h
  show Go w 2 0 0 mtX12_lowestPair 2 [(0, .ref 401), (1, .int a0), (2, .int v2)] [] (go_mk tx μ) (go_Z w Q)
  refine go_iload_n dX12_lowestPair_2 2 rfl ?_
  refine go_bipush (v := 64) dX12_lowestPair_3 (by decide) ?_
  refine go_icmp_ge 91 dX12_lowestPair_5 (by decide) (fun hc => ?_) (fun hc => ?_)
  · have h := go_ifp hc h
    refine go_iconst (v := (-1)) dX12_lowestPair_91 (by decide) ?_
    cases h
    exact go_iret dX12_lowestPair_92 rfl hK
  · have h := go_ifn hc h
    refine go_iload_n dX12_lowestPair_8 2 rfl ?_
    refine go_bipush (v := 8) dX12_lowestPair_9 (by decide) ?_
    refine go_idiv dX12_lowestPair_11 (by decide) ?_
    refine go_istore_n dX12_lowestPair_12 (by decide) rfl ?_
    show Go w 2 0 0 mtX12_lowestPair 13 [(3, .int (v2 / 8)), (0, .ref 401), (1, .int a0), (2, .int v2)] [] (go_mk tx μ) (go_Z w Q)
    refine go_iload_n dX12_lowestPair_13 3 rfl ?_
    refine go_bipush (v := 8) dX12_lowestPair_14 (by decide) ?_
    refine go_iremJ dX12_lowestPair_16 (by decide) ?_
    refine go_istore dX12_lowestPair_17 (by decide) rfl ?_
    show Go w 2 0 0 mtX12_lowestPair 19 [(4, .int (jrem v2 8)), (3, .int (v2 / 8)), (0, .ref 401), (1, .int a0), (2, .int v2)] [] (go_mk tx μ) (go_Z w Q)
    refine go_iload_n dX12_lowestPair_19 1 rfl ?_
    refine go_iload dX12_lowestPair_20 0 rfl ?_
    refine go_icmp_eq 85 dX12_lowestPair_22 (by decide) (fun hc => ?_) (fun hc => ?_)
    · have h := go_ifp hc h
      refine go_iinc (v := (v2 + 1)) dX12_lowestPair_85 4 rfl rfl (by decide) rfl ?_
      show Go w 2 0 0 mtX12_lowestPair 88 [(2, .int (v2 + 1)), (4, .int (jrem v2 8)), (3, .int (v2 / 8)), (0, .ref 401), (1, .int a0)] [] (go_mk tx μ) (go_Z w Q)
      refine go_goto 2 dX12_lowestPair_88 (by decide) ?_
      cases h
      have hK : Go w 2 0 0 mtX12_lowestPair 2 [(0, .ref 401), (1, .int a0), (2, .int (v2 + 1))] [] (go_mk tx μ) (go_Z w Q) := hK
      exact go_pick [3, 4, 0] rfl hK
    · have h := go_ifn hc h
      refine go_iload_n dX12_lowestPair_25 3 rfl ?_
      refine go_iload_n dX12_lowestPair_26 1 rfl ?_
      refine pp_callS (as := [.int a0, .int (v2 / 8)]) (st := []) (rv := (some (.int (fX12_has a0 (v2 / 8))))) (μ1 := μ) (st1 := [.int (fX12_has a0 (v2 / 8))]) dX12_lowestPair_27 ll_X12_239 (ctX12_has  rfl) rfl (Nat.le_of_ble_eq_true rfl) (Nat.le_of_ble_eq_true rfl) (go_Z_up w _) rfl rfl ?_
      refine go_if_eq 85 dX12_lowestPair_30 (by decide) (fun hc => ?_) (fun hc => ?_)
      · have h := go_ifp hc h
        refine go_iinc (v := (v2 + 1)) dX12_lowestPair_85 4 rfl rfl (by decide) rfl ?_
        show Go w 2 0 0 mtX12_lowestPair 88 [(2, .int (v2 + 1)), (4, .int (jrem v2 8)), (3, .int (v2 / 8)), (0, .ref 401), (1, .int a0)] [] (go_mk tx μ) (go_Z w Q)
        refine go_goto 2 dX12_lowestPair_88 (by decide) ?_
        cases h
        have hK : Go w 2 0 0 mtX12_lowestPair 2 [(0, .ref 401), (1, .int a0), (2, .int (v2 + 1))] [] (go_mk tx μ) (go_Z w Q) := hK
        exact go_pick [3, 4, 0] rfl hK
      · have h := go_ifn hc h
        refine go_iload_n dX12_lowestPair_33 3 rfl ?_
        refine go_iload dX12_lowestPair_34 0 rfl ?_
        refine pp_callS (as := [.int a0, .int (jrem v2 8)]) (st := []) (rv := (some (.int (fX12_has a0 (jrem v2 8))))) (μ1 := μ) (st1 := [.int (fX12_has a0 (jrem v2 8))]) dX12_lowestPair_36 ll_X12_239 (ctX12_has  rfl) rfl (Nat.le_of_ble_eq_true rfl) (Nat.le_of_ble_eq_true rfl) (go_Z_up w _) rfl rfl ?_
        refine go_if_eq 85 dX12_lowestPair_39 (by decide) (fun hc => ?_) (fun hc => ?_)
        · have h := go_ifp hc h
          refine go_iinc (v := (v2 + 1)) dX12_lowestPair_85 4 rfl rfl (by decide) rfl ?_
          show Go w 2 0 0 mtX12_lowestPair 88 [(2, .int (v2 + 1)), (4, .int (jrem v2 8)), (3, .int (v2 / 8)), (0, .ref 401), (1, .int a0)] [] (go_mk tx μ) (go_Z w Q)
          refine go_goto 2 dX12_lowestPair_88 (by decide) ?_
          cases h
          have hK : Go w 2 0 0 mtX12_lowestPair 2 [(0, .ref 401), (1, .int a0), (2, .int (v2 + 1))] [] (go_mk tx μ) (go_Z w Q) := hK
          exact go_pick [3, 4, 0] rfl hK
        · have h := go_ifn hc h
          refine go_aload_n dX12_lowestPair_42 2 rfl ?_
          refine go_iload_n dX12_lowestPair_43 1 rfl ?_
          refine go_iload dX12_lowestPair_44 0 rfl ?_
          obtain ⟨q1, hq1, h⟩ := go_bind h
          refine pp_callV (as := [.int (v2 / 8), .int (jrem v2 8)]) (st := []) (rv := (some (.int q1))) (μ1 := μ) (st1 := [.int q1]) dX12_lowestPair_46 ll_X12_439 sh_401 (by decide) rfl (ctX12_joinOf  hq1) rfl (Nat.le_of_ble_eq_true rfl) (Nat.le_of_ble_eq_true rfl) (go_Z_up w _) rfl rfl ?_
          refine go_iconst (v := (-1)) dX12_lowestPair_49 (by decide) ?_
          refine go_icmp_eq 85 dX12_lowestPair_50 (by decide) (fun hc => ?_) (fun hc => ?_)
          · have h := go_ifp hc h
            refine go_iinc (v := (v2 + 1)) dX12_lowestPair_85 4 rfl rfl (by decide) rfl ?_
            show Go w 2 0 0 mtX12_lowestPair 88 [(2, .int (v2 + 1)), (4, .int (jrem v2 8)), (3, .int (v2 / 8)), (0, .ref 401), (1, .int a0)] [] (go_mk tx μ) (go_Z w Q)
            refine go_goto 2 dX12_lowestPair_88 (by decide) ?_
            cases h
            have hK : Go w 2 0 0 mtX12_lowestPair 2 [(0, .ref 401), (1, .int a0), (2, .int (v2 + 1))] [] (go_mk tx μ) (go_Z w Q) := hK
            exact go_pick [3, 4, 0] rfl hK
          · have h := go_ifn hc h
            refine go_aload_n dX12_lowestPair_53 2 rfl ?_
            refine pp_getR dX12_lowestPair_54 ff_X12_56 (Or.inr ⟨_, rfl⟩) sh_401 rf_401_28 ?_
            refine go_iload_n dX12_lowestPair_57 3 rfl ?_
            refine go_iconst (v := 1) dX12_lowestPair_58 (by decide) ?_
            refine go_iload_n dX12_lowestPair_59 1 rfl ?_
            refine go_ishl dX12_lowestPair_60 ?_
            refine go_iconst (v := (-1)) dX12_lowestPair_61 (by decide) ?_
            refine go_ixor dX12_lowestPair_62 ?_
            refine go_iand dX12_lowestPair_63 ?_
            refine go_iconst (v := 1) dX12_lowestPair_64 (by decide) ?_
            refine go_iload dX12_lowestPair_65 0 rfl ?_
            refine go_ishl dX12_lowestPair_67 ?_
            refine go_iconst (v := (-1)) dX12_lowestPair_68 (by decide) ?_
            refine go_ixor dX12_lowestPair_69 ?_
            refine go_iand dX12_lowestPair_70 ?_
            obtain ⟨hz2, h⟩ := go_chk_e h
            refine pp_ild dX12_lowestPair_71 sh_413 hz2 ?_
            refine go_aload_n dX12_lowestPair_72 2 rfl ?_
            refine pp_getR dX12_lowestPair_73 ff_X12_56 (Or.inr ⟨_, rfl⟩) sh_401 rf_401_28 ?_
            refine go_iload_n dX12_lowestPair_76 3 rfl ?_
            obtain ⟨hz3, h⟩ := go_chk_e h
            refine pp_ild dX12_lowestPair_77 sh_413 hz3 ?_
            refine go_iconst (v := 1) dX12_lowestPair_78 (by decide) ?_
            refine go_isub dX12_lowestPair_79 ?_
            refine go_icmp_ne 85 dX12_lowestPair_80 (by decide) (fun hc => ?_) (fun hc => ?_)
            · have h := go_ifn hc h
              refine go_iinc (v := (v2 + 1)) dX12_lowestPair_85 4 rfl rfl (by decide) rfl ?_
              show Go w 2 0 0 mtX12_lowestPair 88 [(2, .int (v2 + 1)), (4, .int (jrem v2 8)), (3, .int (v2 / 8)), (0, .ref 401), (1, .int a0)] [] (go_mk tx μ) (go_Z w Q)
              refine go_goto 2 dX12_lowestPair_88 (by decide) ?_
              cases h
              have hK : Go w 2 0 0 mtX12_lowestPair 2 [(0, .ref 401), (1, .int a0), (2, .int (v2 + 1))] [] (go_mk tx μ) (go_Z w Q) := hK
              exact go_pick [3, 4, 0] rfl hK
            · have h := go_ifp hc h
              refine go_iload_n dX12_lowestPair_83 4 rfl ?_
              cases h
              exact go_iret dX12_lowestPair_84 rfl hK
set_option maxRecDepth 20000 in
set_option maxHeartbeats 4000000 in
theorem cmX12_lowestPair (w : go_Wd) (tx : Nat) (Q : Option Value → go_M → Prop) (μ : PM) (a0 : Int32) (out : Int32) (h : fX12_lowestPair μ a0 = some out) (hK : Q (some (.int out)) (go_mk tx μ)) : Go w 2 0 0 mtX12_lowestPair 0 [(0, .ref 401), (1, .int a0)] [] (go_mk tx μ) (go_Z w Q) := by
  unfold fX12_lowestPair at h
  refine go_iconst (v := 0) dX12_lowestPair_0 (by decide) ?_
  refine go_istore_n dX12_lowestPair_1 (by decide) rfl ?_
  show Go w 2 0 0 mtX12_lowestPair 2 [(2, .int 0), (0, .ref 401), (1, .int a0)] [] (go_mk tx μ) (go_Z w Q)
  obtain ⟨ρ4, hρ4, h⟩ := go_bind h
  refine go_pick [1, 2, 0] rfl ?_
  refine go_lp (G := ggX12_lowestPair_2 w tx Q μ a0 ) (E := eeX12_lowestPair_2 w tx Q μ a0 ) (fun s out h hK => lqX12_lowestPair_2 w tx Q μ a0   s out h hK) go_fuel 0 ρ4 hρ4 ?_
  cases h
  exact hK
theorem ctX12_lowestPair {w : go_Wd} {tx : Nat} {μ : PM} {a0 : Int32} {r : Int32}  (h : fX12_lowestPair μ a0 = some r) : Ct w 2 0 0 mtX12_lowestPair [.ref 401, .int a0] (go_mk tx μ) (fun r' M' => r' = some (.int r) ∧ M' = go_mk tx μ) :=
  go_entry rfl (by decide) (Nat.le_of_ble_eq_true rfl) (cmX12_lowestPair w tx _ μ a0 _ h ⟨rfl, rfl⟩)
def lbX12_joins_55 (μ : PM) (a0 : Int32)  (v2 : Int32) (v3 : Int32) (v4 : Int32) : Option ((Int32 × Int32 × Int32) ⊕ ((Int32) ⊕ (Int32 × PM))) :=
  (if a0 ≤ v4 then some (.inr (.inl v3)) else go_let ((v2 &&& ((((1 : Int32) <<< ((v3 / 8) &&& 31)) ^^^ (-1)) &&& (((1 : Int32) <<< ((jrem v3 8) &&& 31)) ^^^ (-1))))) fun x5 => (fX12_lowestPair μ x5).bind fun q6 => some (.inl (x5, q6, (v4 + 1))))
def fX12_joins (μ : PM) (a0 : Int32) : Option (Int32 × PM) :=
  (fX12_layPairs μ).bind fun q1 => go_let ((((1 : Int32) <<< ((q1.1 402 5) &&& 31)) - 1)) fun x2 => (if a0 = (-1) then go_chk x2 256 <| some (((q1.1 413 x2.toNatClampNeg), q1)) else go_chk x2 256 <| (if (fX12_isIn a0 0 ((q1.1 413 x2.toNatClampNeg) - 1)) = 0 then some (((-2), q1)) else (fX12_lowestPair q1 x2).bind fun q4 => ((lp (fun s => lbX12_joins_55 q1 a0 s.1 s.2.1 s.2.2) go_fuel (x2, q4, 0)).bind fun ρ7 => go_cs ρ7 (fun e8 => (fX12_joinOf q1 (e8 / 8) (jrem e8 8)).bind fun q9 => some (((((100 * (e8 / 8)) + (10 * (jrem e8 8))) + q9), q1))) (fun y => some y))))
def ggX12_joins_55 (w : go_Wd) (tx : Nat) (Q : Option Value → go_M → Prop) (μ : PM) (a0 : Int32)  (s : Int32 × Int32 × Int32) : Prop := Go w 3 0 0 mtX12_joins 55 [(0, .ref 401), (1, .int a0), (2, .int s.1), (3, .int s.2.1), (4, .int s.2.2)] [] (go_mk tx μ) (go_Z w Q)
def eeX12_joins_55 (w : go_Wd) (tx : Nat) (Q : Option Value → go_M → Prop) (μ : PM) (a0 : Int32)  : (Int32) ⊕ (Int32 × PM) → Prop
  | .inl e => Go w 3 0 0 mtX12_joins 93 [(0, .ref 401), (3, .int e)] [] (go_mk tx μ) (go_Z w Q)
  | .inr y => Q (some (.int y.1)) (go_mk tx y.2)
set_option maxRecDepth 20000 in
set_option maxHeartbeats 4000000 in
theorem lqX12_joins_55 (w : go_Wd) (tx : Nat) (Q : Option Value → go_M → Prop) (μ : PM) (a0 : Int32)   (v2 : Int32) (v3 : Int32) (v4 : Int32) (out : (Int32 × Int32 × Int32) ⊕ ((Int32) ⊕ (Int32 × PM))) (h : lbX12_joins_55 μ a0  v2 v3 v4 = some out) (hK : go_out (ggX12_joins_55 w tx Q μ a0 ) (eeX12_joins_55 w tx Q μ a0 ) out) : ggX12_joins_55 w tx Q μ a0  (v2, v3, v4) := by
  unfold lbX12_joins_55 at h
  show Go w 3 0 0 mtX12_joins 55 [(0, .ref 401), (1, .int a0), (2, .int v2), (3, .int v3), (4, .int v4)] [] (go_mk tx μ) (go_Z w Q)
  refine go_iload dX12_joins_55 4 rfl ?_
  refine go_iload_n dX12_joins_57 1 rfl ?_
  refine go_icmp_ge 93 dX12_joins_58 (by decide) (fun hc => ?_) (fun hc => ?_)
  · have h := go_ifp hc h
    cases h
    have hK : Go w 3 0 0 mtX12_joins 93 [(0, .ref 401), (3, .int v3)] [] (go_mk tx μ) (go_Z w Q) := hK
    exact go_pick [0, 3] rfl hK
  · have h := go_ifn hc h
    refine go_iload_n dX12_joins_61 2 rfl ?_
    refine go_iconst (v := 1) dX12_joins_62 (by decide) ?_
    refine go_iload_n dX12_joins_63 3 rfl ?_
    refine go_bipush (v := 8) dX12_joins_64 (by decide) ?_
    refine go_idiv dX12_joins_66 (by decide) ?_
    refine go_ishl dX12_joins_67 ?_
    refine go_iconst (v := (-1)) dX12_joins_68 (by decide) ?_
    refine go_ixor dX12_joins_69 ?_
    refine go_iconst (v := 1) dX12_joins_70 (by decide) ?_
    refine go_iload_n dX12_joins_71 3 rfl ?_
    refine go_bipush (v := 8) dX12_joins_72 (by decide) ?_
    refine go_iremJ dX12_joins_74 (by decide) ?_
    refine go_ishl dX12_joins_75 ?_
    refine go_iconst (v := (-1)) dX12_joins_76 (by decide) ?_
    refine go_ixor dX12_joins_77 ?_
    refine go_iand dX12_joins_78 ?_
    refine go_iand dX12_joins_79 ?_
    obtain ⟨x5, hx5, h⟩ := go_let_e h
    refine go_top hx5 ?_
    refine go_istore_n dX12_joins_80 (by decide) rfl ?_
    show Go w 3 0 0 mtX12_joins 81 [(2, .int x5), (0, .ref 401), (1, .int a0), (3, .int v3), (4, .int v4)] [] (go_mk tx μ) (go_Z w Q)
    refine go_aload_n dX12_joins_81 1 rfl ?_
    refine go_iload_n dX12_joins_82 0 rfl ?_
    obtain ⟨q6, hq6, h⟩ := go_bind h
    refine pp_callV (as := [.int x5]) (st := []) (rv := (some (.int q6))) (μ1 := μ) (st1 := [.int q6]) dX12_joins_83 ll_X12_445 sh_401 (by decide) rfl (ctX12_lowestPair  hq6) rfl (Nat.le_of_ble_eq_true rfl) (Nat.le_of_ble_eq_true rfl) (go_Z_up w _) rfl rfl ?_
    refine go_istore_n dX12_joins_86 (by decide) rfl ?_
    show Go w 3 0 0 mtX12_joins 87 [(3, .int q6), (2, .int x5), (0, .ref 401), (1, .int a0), (4, .int v4)] [] (go_mk tx μ) (go_Z w Q)
    refine go_iinc (v := (v4 + 1)) dX12_joins_87 4 rfl rfl (by decide) rfl ?_
    show Go w 3 0 0 mtX12_joins 90 [(4, .int (v4 + 1)), (3, .int q6), (2, .int x5), (0, .ref 401), (1, .int a0)] [] (go_mk tx μ) (go_Z w Q)
    refine go_goto 55 dX12_joins_90 (by decide) ?_
    cases h
    have hK : Go w 3 0 0 mtX12_joins 55 [(0, .ref 401), (1, .int a0), (2, .int x5), (3, .int q6), (4, .int (v4 + 1))] [] (go_mk tx μ) (go_Z w Q) := hK
    exact go_pick [3, 4, 2, 1, 0] rfl hK
set_option maxRecDepth 20000 in
set_option maxHeartbeats 4000000 in
theorem cmX12_joins (w : go_Wd) (tx : Nat) (Q : Option Value → go_M → Prop) (μ : PM) (a0 : Int32) (out : Int32 × PM) (h : fX12_joins μ a0 = some out) (hK : Q (some (.int out.1)) (go_mk tx out.2)) : Go w 3 0 0 mtX12_joins 0 [(0, .ref 401), (1, .int a0)] [] (go_mk tx μ) (go_Z w Q) := by
  unfold fX12_joins at h
  refine go_aload_n dX12_joins_0 0 rfl ?_
  obtain ⟨q1, hq1, h⟩ := go_bind h
  refine pp_callV (as := []) (st := []) (rv := none) (μ1 := q1) (st1 := []) dX12_joins_1 ll_X12_442 sh_401 (by decide) rfl (ctX12_layPairs  hq1) rfl (Nat.le_of_ble_eq_true rfl) (Nat.le_of_ble_eq_true rfl) (go_Z_up w _) rfl rfl ?_
  refine go_iconst (v := 1) dX12_joins_4 (by decide) ?_
  refine go_aload_n dX12_joins_5 0 rfl ?_
  refine pp_getR dX12_joins_6 ff_X12_7 (Or.inr ⟨_, rfl⟩) sh_401 rf_401_0 ?_
  refine go_iconst (v := 5) dX12_joins_9 (by decide) ?_
  refine pp_ildc (q := 5) dX12_joins_10 sh_402 (by decide) ?_
  refine go_ishl dX12_joins_11 ?_
  refine go_iconst (v := 1) dX12_joins_12 (by decide) ?_
  refine go_isub dX12_joins_13 ?_
  obtain ⟨x2, hx2, h⟩ := go_let_e h
  refine go_top hx2 ?_
  refine go_istore_n dX12_joins_14 (by decide) rfl ?_
  show Go w 3 0 0 mtX12_joins 15 [(2, .int x2), (0, .ref 401), (1, .int a0)] [] (go_mk tx q1) (go_Z w Q)
  refine go_iload_n dX12_joins_15 2 rfl ?_
  refine go_iconst (v := (-1)) dX12_joins_16 (by decide) ?_
  refine go_icmp_ne 27 dX12_joins_17 (by decide) (fun hc => ?_) (fun hc => ?_)
  · have h := go_ifn hc h
    refine go_iload_n dX12_joins_27 2 rfl ?_
    refine go_iconst (v := 0) dX12_joins_28 (by decide) ?_
    refine go_aload_n dX12_joins_29 1 rfl ?_
    refine pp_getR dX12_joins_30 ff_X12_56 (Or.inr ⟨_, rfl⟩) sh_401 rf_401_28 ?_
    refine go_iload_n dX12_joins_33 0 rfl ?_
    obtain ⟨hz3, h⟩ := go_chk_e h
    refine pp_ild dX12_joins_34 sh_413 hz3 ?_
    refine go_iconst (v := 1) dX12_joins_35 (by decide) ?_
    refine go_isub dX12_joins_36 ?_
    refine pp_callS (as := [.int a0, .int 0, .int ((q1.1 413 x2.toNatClampNeg) - 1)]) (st := []) (rv := (some (.int (fX12_isIn a0 0 ((q1.1 413 x2.toNatClampNeg) - 1))))) (μ1 := q1) (st1 := [.int (fX12_isIn a0 0 ((q1.1 413 x2.toNatClampNeg) - 1))]) dX12_joins_37 ll_X12_63 (ctX12_isIn  rfl) rfl (Nat.le_of_ble_eq_true rfl) (Nat.le_of_ble_eq_true rfl) (go_Z_up w _) rfl rfl ?_
    refine go_if_ne 46 dX12_joins_40 (by decide) (fun hc => ?_) (fun hc => ?_)
    · have h := go_ifn hc h
      refine go_aload_n dX12_joins_46 1 rfl ?_
      refine go_iload_n dX12_joins_47 0 rfl ?_
      obtain ⟨q4, hq4, h⟩ := go_bind h
      refine pp_callV (as := [.int x2]) (st := []) (rv := (some (.int q4))) (μ1 := q1) (st1 := [.int q4]) dX12_joins_48 ll_X12_445 sh_401 (by decide) rfl (ctX12_lowestPair  hq4) rfl (Nat.le_of_ble_eq_true rfl) (Nat.le_of_ble_eq_true rfl) (go_Z_up w _) rfl rfl ?_
      refine go_istore_n dX12_joins_51 (by decide) rfl ?_
      show Go w 3 0 0 mtX12_joins 52 [(3, .int q4), (2, .int x2), (0, .ref 401), (1, .int a0)] [] (go_mk tx q1) (go_Z w Q)
      refine go_iconst (v := 0) dX12_joins_52 (by decide) ?_
      refine go_istore dX12_joins_53 (by decide) rfl ?_
      show Go w 3 0 0 mtX12_joins 55 [(4, .int 0), (3, .int q4), (2, .int x2), (0, .ref 401), (1, .int a0)] [] (go_mk tx q1) (go_Z w Q)
      obtain ⟨ρ7, hρ7, h⟩ := go_bind h
      refine go_pick [3, 4, 2, 1, 0] rfl ?_
      refine go_lp (G := ggX12_joins_55 w tx Q q1 a0 ) (E := eeX12_joins_55 w tx Q q1 a0 ) (fun s out h hK => lqX12_joins_55 w tx Q q1 a0   s.1 s.2.1 s.2.2 out h hK) go_fuel (x2, q4, 0) ρ7 hρ7 ?_
      rcases ρ7 with e8 | y
      · have h := go_csl h
        show Go w 3 0 0 mtX12_joins 93 [(0, .ref 401), (3, .int e8)] [] (go_mk tx q1) (go_Z w Q)
        refine go_bipush (v := 100) dX12_joins_93 (by decide) ?_
        refine go_iload_n dX12_joins_95 1 rfl ?_
        refine go_bipush (v := 8) dX12_joins_96 (by decide) ?_
        refine go_idiv dX12_joins_98 (by decide) ?_
        refine go_imul dX12_joins_99 ?_
        refine go_bipush (v := 10) dX12_joins_100 (by decide) ?_
        refine go_iload_n dX12_joins_102 1 rfl ?_
        refine go_bipush (v := 8) dX12_joins_103 (by decide) ?_
        refine go_iremJ dX12_joins_105 (by decide) ?_
        refine go_imul dX12_joins_106 ?_
        refine go_iadd dX12_joins_107 ?_
        refine go_aload_n dX12_joins_108 0 rfl ?_
        refine go_iload_n dX12_joins_109 1 rfl ?_
        refine go_bipush (v := 8) dX12_joins_110 (by decide) ?_
        refine go_idiv dX12_joins_112 (by decide) ?_
        refine go_iload_n dX12_joins_113 1 rfl ?_
        refine go_bipush (v := 8) dX12_joins_114 (by decide) ?_
        refine go_iremJ dX12_joins_116 (by decide) ?_
        obtain ⟨q9, hq9, h⟩ := go_bind h
        refine pp_callV (as := [.int (e8 / 8), .int (jrem e8 8)]) (st := [.int ((100 * (e8 / 8)) + (10 * (jrem e8 8)))]) (rv := (some (.int q9))) (μ1 := q1) (st1 := [.int q9, .int ((100 * (e8 / 8)) + (10 * (jrem e8 8)))]) dX12_joins_117 ll_X12_439 sh_401 (by decide) rfl (ctX12_joinOf  hq9) rfl (Nat.le_of_ble_eq_true rfl) (Nat.le_of_ble_eq_true rfl) (go_Z_up w _) rfl rfl ?_
        refine go_iadd dX12_joins_120 ?_
        cases h
        exact go_iret dX12_joins_121 rfl hK
      · have h := go_csr h
        cases h
        exact hK
    · have h := go_ifp hc h
      refine go_bipush (v := (-2)) dX12_joins_43 (by decide) ?_
      cases h
      exact go_iret dX12_joins_45 rfl hK
  · have h := go_ifp hc h
    refine go_aload_n dX12_joins_20 1 rfl ?_
    refine pp_getR dX12_joins_21 ff_X12_56 (Or.inr ⟨_, rfl⟩) sh_401 rf_401_28 ?_
    refine go_iload_n dX12_joins_24 0 rfl ?_
    obtain ⟨hz10, h⟩ := go_chk_e h
    refine pp_ild dX12_joins_25 sh_413 hz10 ?_
    cases h
    exact go_iret dX12_joins_26 rfl hK
theorem ctX12_joins {w : go_Wd} {tx : Nat} {μ : PM} {a0 : Int32} {r : Int32} {μ1 : PM}  (h : fX12_joins μ a0 = some (r, μ1)) : Ct w 3 0 0 mtX12_joins [.ref 401, .int a0] (go_mk tx μ) (fun r' M' => r' = some (.int r) ∧ M' = go_mk tx μ1) :=
  go_entry rfl (by decide) (Nat.le_of_ble_eq_true rfl) (cmX12_joins w tx _ μ a0 _ h ⟨rfl, rfl⟩)
def jjX12_layers_58_24 (μ : PM) (a0 : Int32) (v3 : Int32) (s0 : Int32) (s1 : Int32) : Option ((Int32 × Int32) ⊕ (Int32)) :=
  some (.inl ((s0 ||| s1), (v3 + 1)))
def lbX12_layers_24 (μ : PM) (a0 : Int32)  (v2 : Int32) (v3 : Int32) : Option ((Int32 × Int32) ⊕ (Int32)) :=
  (if (μ.1 402 0) ≤ v3 then some (.inr (v2)) else (if (fX12_has a0 v3) = 0 then jjX12_layers_58_24 μ a0 v3 v2 0 else go_chk (36 + v3) 1792 <| jjX12_layers_58_24 μ a0 v3 v2 (((1 : Int32) <<< ((μ.1 402 ((36 + v3) : Int32).toNatClampNeg) &&& 31)))))
def fX12_layers (μ : PM) (a0 : Int32) : Option (Int32) :=
  (if (fX12_isIn a0 0 (((1 : Int32) <<< ((μ.1 402 0) &&& 31)) - 1)) = 0 then some ((-1)) else ((lp (fun s => lbX12_layers_24 μ a0 s.1 s.2) go_fuel (0, 0)).bind fun ρ2 => some ρ2))
def ggX12_layers_24 (w : go_Wd) (tx : Nat) (Q : Option Value → go_M → Prop) (μ : PM) (a0 : Int32)  (s : Int32 × Int32) : Prop := Go w 1 0 0 mtX12_layers 24 [(0, .ref 401), (1, .int a0), (2, .int s.1), (3, .int s.2)] [] (go_mk tx μ) (go_Z w Q)
def eeX12_layers_24 (w : go_Wd) (tx : Nat) (Q : Option Value → go_M → Prop) (μ : PM) (a0 : Int32)  (y : Int32) : Prop := Q (some (.int y)) (go_mk tx μ)
set_option maxRecDepth 20000 in
set_option maxHeartbeats 4000000 in
theorem jqX12_layers_58_24 (w : go_Wd) (tx : Nat) (Q : Option Value → go_M → Prop) (μ : PM) (a0 : Int32) (v3 : Int32)  (s0 : Int32) (s1 : Int32)  (out : (Int32 × Int32) ⊕ (Int32)) (h : jjX12_layers_58_24 μ a0 v3 s0 s1 = some out) (hK : go_out (ggX12_layers_24 w tx Q μ a0 ) (eeX12_layers_24 w tx Q μ a0 ) out) : Go w 1 0 0 mtX12_layers 58 [(0, .ref 401), (1, .int a0), (3, .int v3)] [.int s1, .int s0] (go_mk tx μ) (go_Z w Q) := by
  unfold jjX12_layers_58_24 at h
  refine go_ior dX12_layers_58 ?_
  refine go_istore_n dX12_layers_59 (by decide) rfl ?_
  show Go w 1 0 0 mtX12_layers 60 [(2, .int (s0 ||| s1)), (0, .ref 401), (1, .int a0), (3, .int v3)] [] (go_mk tx μ) (go_Z w Q)
  refine go_iinc (v := (v3 + 1)) dX12_layers_60 3 rfl rfl (by decide) rfl ?_
  show Go w 1 0 0 mtX12_layers 63 [(3, .int (v3 + 1)), (2, .int (s0 ||| s1)), (0, .ref 401), (1, .int a0)] [] (go_mk tx μ) (go_Z w Q)
  refine go_goto 24 dX12_layers_63 (by decide) ?_
  cases h
  have hK : Go w 1 0 0 mtX12_layers 24 [(0, .ref 401), (1, .int a0), (2, .int (s0 ||| s1)), (3, .int (v3 + 1))] [] (go_mk tx μ) (go_Z w Q) := hK
  exact go_pick [2, 3, 1, 0] rfl hK
set_option maxRecDepth 20000 in
set_option maxHeartbeats 4000000 in
theorem lqX12_layers_24 (w : go_Wd) (tx : Nat) (Q : Option Value → go_M → Prop) (μ : PM) (a0 : Int32)   (v2 : Int32) (v3 : Int32) (out : (Int32 × Int32) ⊕ (Int32)) (h : lbX12_layers_24 μ a0  v2 v3 = some out) (hK : go_out (ggX12_layers_24 w tx Q μ a0 ) (eeX12_layers_24 w tx Q μ a0 ) out) : ggX12_layers_24 w tx Q μ a0  (v2, v3) := by
  unfold lbX12_layers_24 at h
  show Go w 1 0 0 mtX12_layers 24 [(0, .ref 401), (1, .int a0), (2, .int v2), (3, .int v3)] [] (go_mk tx μ) (go_Z w Q)
  refine go_iload_n dX12_layers_24 3 rfl ?_
  refine go_aload_n dX12_layers_25 0 rfl ?_
  refine pp_getR dX12_layers_26 ff_X12_7 (Or.inr ⟨_, rfl⟩) sh_401 rf_401_0 ?_
  refine go_iconst (v := 0) dX12_layers_29 (by decide) ?_
  refine pp_ildc (q := 0) dX12_layers_30 sh_402 (by decide) ?_
  refine go_icmp_ge 66 dX12_layers_31 (by decide) (fun hc => ?_) (fun hc => ?_)
  · have h := go_ifp hc h
    refine go_iload_n dX12_layers_66 2 rfl ?_
    cases h
    exact go_iret dX12_layers_67 rfl hK
  · have h := go_ifn hc h
    refine go_iload_n dX12_layers_34 2 rfl ?_
    refine go_iload_n dX12_layers_35 1 rfl ?_
    refine go_iload_n dX12_layers_36 3 rfl ?_
    refine pp_callS (as := [.int a0, .int v3]) (st := [.int v2]) (rv := (some (.int (fX12_has a0 v3)))) (μ1 := μ) (st1 := [.int (fX12_has a0 v3), .int v2]) dX12_layers_37 ll_X12_239 (ctX12_has  rfl) rfl (Nat.le_of_ble_eq_true rfl) (Nat.le_of_ble_eq_true rfl) (go_Z_up w _) rfl rfl ?_
    refine go_if_eq 57 dX12_layers_40 (by decide) (fun hc => ?_) (fun hc => ?_)
    · have h := go_ifp hc h
      refine go_iconst (v := 0) dX12_layers_57 (by decide) ?_
      refine go_pick [0, 1, 3] rfl ?_
      exact jqX12_layers_58_24 w tx Q μ a0 v3  v2 0  _ h hK
    · have h := go_ifn hc h
      refine go_iconst (v := 1) dX12_layers_43 (by decide) ?_
      refine go_aload_n dX12_layers_44 0 rfl ?_
      refine pp_getR dX12_layers_45 ff_X12_7 (Or.inr ⟨_, rfl⟩) sh_401 rf_401_0 ?_
      refine go_bipush (v := 36) dX12_layers_48 (by decide) ?_
      refine go_iload_n dX12_layers_50 3 rfl ?_
      refine go_iadd dX12_layers_51 ?_
      obtain ⟨hz1, h⟩ := go_chk_e h
      refine pp_ild dX12_layers_52 sh_402 hz1 ?_
      refine go_ishl dX12_layers_53 ?_
      refine go_goto 58 dX12_layers_54 (by decide) ?_
      refine go_pick [0, 1, 3] rfl ?_
      exact jqX12_layers_58_24 w tx Q μ a0 v3  v2 (((1 : Int32) <<< ((μ.1 402 ((36 + v3) : Int32).toNatClampNeg) &&& 31)))  _ h hK
set_option maxRecDepth 20000 in
set_option maxHeartbeats 4000000 in
theorem cmX12_layers (w : go_Wd) (tx : Nat) (Q : Option Value → go_M → Prop) (μ : PM) (a0 : Int32) (out : Int32) (h : fX12_layers μ a0 = some out) (hK : Q (some (.int out)) (go_mk tx μ)) : Go w 1 0 0 mtX12_layers 0 [(0, .ref 401), (1, .int a0)] [] (go_mk tx μ) (go_Z w Q) := by
  unfold fX12_layers at h
  refine go_iload_n dX12_layers_0 1 rfl ?_
  refine go_iconst (v := 0) dX12_layers_1 (by decide) ?_
  refine go_iconst (v := 1) dX12_layers_2 (by decide) ?_
  refine go_aload_n dX12_layers_3 0 rfl ?_
  refine pp_getR dX12_layers_4 ff_X12_7 (Or.inr ⟨_, rfl⟩) sh_401 rf_401_0 ?_
  refine go_iconst (v := 0) dX12_layers_7 (by decide) ?_
  refine pp_ildc (q := 0) dX12_layers_8 sh_402 (by decide) ?_
  refine go_ishl dX12_layers_9 ?_
  refine go_iconst (v := 1) dX12_layers_10 (by decide) ?_
  refine go_isub dX12_layers_11 ?_
  refine pp_callS (as := [.int a0, .int 0, .int (((1 : Int32) <<< ((μ.1 402 0) &&& 31)) - 1)]) (st := []) (rv := (some (.int (fX12_isIn a0 0 (((1 : Int32) <<< ((μ.1 402 0) &&& 31)) - 1))))) (μ1 := μ) (st1 := [.int (fX12_isIn a0 0 (((1 : Int32) <<< ((μ.1 402 0) &&& 31)) - 1))]) dX12_layers_12 ll_X12_63 (ctX12_isIn  rfl) rfl (Nat.le_of_ble_eq_true rfl) (Nat.le_of_ble_eq_true rfl) (go_Z_up w _) rfl rfl ?_
  refine go_if_ne 20 dX12_layers_15 (by decide) (fun hc => ?_) (fun hc => ?_)
  · have h := go_ifn hc h
    refine go_iconst (v := 0) dX12_layers_20 (by decide) ?_
    refine go_istore_n dX12_layers_21 (by decide) rfl ?_
    show Go w 1 0 0 mtX12_layers 22 [(2, .int 0), (0, .ref 401), (1, .int a0)] [] (go_mk tx μ) (go_Z w Q)
    refine go_iconst (v := 0) dX12_layers_22 (by decide) ?_
    refine go_istore_n dX12_layers_23 (by decide) rfl ?_
    show Go w 1 0 0 mtX12_layers 24 [(3, .int 0), (2, .int 0), (0, .ref 401), (1, .int a0)] [] (go_mk tx μ) (go_Z w Q)
    obtain ⟨ρ2, hρ2, h⟩ := go_bind h
    refine go_pick [2, 3, 1, 0] rfl ?_
    refine go_lp (G := ggX12_layers_24 w tx Q μ a0 ) (E := eeX12_layers_24 w tx Q μ a0 ) (fun s out h hK => lqX12_layers_24 w tx Q μ a0   s.1 s.2 out h hK) go_fuel (0, 0) ρ2 hρ2 ?_
    cases h
    exact hK
  · have h := go_ifp hc h
    refine go_iconst (v := (-1)) dX12_layers_18 (by decide) ?_
    cases h
    exact go_iret dX12_layers_19 rfl hK
theorem ctX12_layers {w : go_Wd} {tx : Nat} {μ : PM} {a0 : Int32} {r : Int32}  (h : fX12_layers μ a0 = some r) : Ct w 1 0 0 mtX12_layers [.ref 401, .int a0] (go_mk tx μ) (fun r' M' => r' = some (.int r) ∧ M' = go_mk tx μ) :=
  go_entry rfl (by decide) (Nat.le_of_ble_eq_true rfl) (cmX12_layers w tx _ μ a0 _ h ⟨rfl, rfl⟩)
def lbX12_rhymeOf_24 (μ : PM) (a0 : Int32) (a1 : Int32)  (v3 : Int32) (v4 : Int32) (v5 : Int32) : Option ((Int32 × Int32 × Int32) ⊕ (Int32)) :=
  (if v3 ≤ 0 then some (.inr (v5)) else (if v4 ≤ 0 then some (.inr (v5)) else (if (jrem v3 10) = (jrem v4 10) then some (.inl ((v3 / 10), (v4 / 10), (v5 + 1))) else some (.inr (v5)))))
def fX12_rhymeOf (μ : PM) (a0 : Int32) (a1 : Int32) : Option (Int32) :=
  go_chk (30 + a0) 1792 <| go_let ((μ.1 402 ((30 + a0) : Int32).toNatClampNeg)) fun x2 => go_chk (30 + a1) 1792 <| go_let ((μ.1 402 ((30 + a1) : Int32).toNatClampNeg)) fun x4 => ((lp (fun s => lbX12_rhymeOf_24 μ a0 a1 s.1 s.2.1 s.2.2) go_fuel (x2, x4, 0)).bind fun ρ5 => some ρ5)
def ggX12_rhymeOf_24 (w : go_Wd) (tx : Nat) (Q : Option Value → go_M → Prop) (μ : PM) (a0 : Int32) (a1 : Int32)  (s : Int32 × Int32 × Int32) : Prop := Go w 0 0 0 mtX12_rhymeOf 24 [(3, .int s.1), (4, .int s.2.1), (5, .int s.2.2)] [] (go_mk tx μ) (go_Z w Q)
def eeX12_rhymeOf_24 (w : go_Wd) (tx : Nat) (Q : Option Value → go_M → Prop) (μ : PM) (a0 : Int32) (a1 : Int32)  (y : Int32) : Prop := Q (some (.int y)) (go_mk tx μ)
set_option maxRecDepth 20000 in
set_option maxHeartbeats 4000000 in
theorem lqX12_rhymeOf_24 (w : go_Wd) (tx : Nat) (Q : Option Value → go_M → Prop) (μ : PM) (a0 : Int32) (a1 : Int32)   (v3 : Int32) (v4 : Int32) (v5 : Int32) (out : (Int32 × Int32 × Int32) ⊕ (Int32)) (h : lbX12_rhymeOf_24 μ a0 a1  v3 v4 v5 = some out) (hK : go_out (ggX12_rhymeOf_24 w tx Q μ a0 a1 ) (eeX12_rhymeOf_24 w tx Q μ a0 a1 ) out) : ggX12_rhymeOf_24 w tx Q μ a0 a1  (v3, v4, v5) := by
  unfold lbX12_rhymeOf_24 at h
  show Go w 0 0 0 mtX12_rhymeOf 24 [(3, .int v3), (4, .int v4), (5, .int v5)] [] (go_mk tx μ) (go_Z w Q)
  refine go_iload_n dX12_rhymeOf_24 0 rfl ?_
  refine go_if_le 63 dX12_rhymeOf_25 (by decide) (fun hc => ?_) (fun hc => ?_)
  · have h := go_ifp hc h
    refine go_iload dX12_rhymeOf_63 2 rfl ?_
    cases h
    exact go_iret dX12_rhymeOf_65 rfl hK
  · have h := go_ifn hc h
    refine go_iload dX12_rhymeOf_28 1 rfl ?_
    refine go_if_le 63 dX12_rhymeOf_30 (by decide) (fun hc => ?_) (fun hc => ?_)
    · have h := go_ifp hc h
      refine go_iload dX12_rhymeOf_63 2 rfl ?_
      cases h
      exact go_iret dX12_rhymeOf_65 rfl hK
    · have h := go_ifn hc h
      refine go_iload_n dX12_rhymeOf_33 0 rfl ?_
      refine go_bipush (v := 10) dX12_rhymeOf_34 (by decide) ?_
      refine go_iremJ dX12_rhymeOf_36 (by decide) ?_
      refine go_iload dX12_rhymeOf_37 1 rfl ?_
      refine go_bipush (v := 10) dX12_rhymeOf_39 (by decide) ?_
      refine go_iremJ dX12_rhymeOf_41 (by decide) ?_
      refine go_icmp_ne 63 dX12_rhymeOf_42 (by decide) (fun hc => ?_) (fun hc => ?_)
      · have h := go_ifn hc h
        refine go_iload dX12_rhymeOf_63 2 rfl ?_
        cases h
        exact go_iret dX12_rhymeOf_65 rfl hK
      · have h := go_ifp hc h
        refine go_iload_n dX12_rhymeOf_45 0 rfl ?_
        refine go_bipush (v := 10) dX12_rhymeOf_46 (by decide) ?_
        refine go_idiv dX12_rhymeOf_48 (by decide) ?_
        refine go_istore_n dX12_rhymeOf_49 (by decide) rfl ?_
        show Go w 0 0 0 mtX12_rhymeOf 50 [(3, .int (v3 / 10)), (4, .int v4), (5, .int v5)] [] (go_mk tx μ) (go_Z w Q)
        refine go_iload dX12_rhymeOf_50 1 rfl ?_
        refine go_bipush (v := 10) dX12_rhymeOf_52 (by decide) ?_
        refine go_idiv dX12_rhymeOf_54 (by decide) ?_
        refine go_istore dX12_rhymeOf_55 (by decide) rfl ?_
        show Go w 0 0 0 mtX12_rhymeOf 57 [(4, .int (v4 / 10)), (3, .int (v3 / 10)), (5, .int v5)] [] (go_mk tx μ) (go_Z w Q)
        refine go_iinc (v := (v5 + 1)) dX12_rhymeOf_57 2 rfl rfl (by decide) rfl ?_
        show Go w 0 0 0 mtX12_rhymeOf 60 [(5, .int (v5 + 1)), (4, .int (v4 / 10)), (3, .int (v3 / 10))] [] (go_mk tx μ) (go_Z w Q)
        refine go_goto 24 dX12_rhymeOf_60 (by decide) ?_
        cases h
        have hK : Go w 0 0 0 mtX12_rhymeOf 24 [(3, .int (v3 / 10)), (4, .int (v4 / 10)), (5, .int (v5 + 1))] [] (go_mk tx μ) (go_Z w Q) := hK
        exact go_pick [2, 1, 0] rfl hK
set_option maxRecDepth 20000 in
set_option maxHeartbeats 4000000 in
theorem cmX12_rhymeOf (w : go_Wd) (tx : Nat) (Q : Option Value → go_M → Prop) (μ : PM) (a0 : Int32) (a1 : Int32) (out : Int32) (h : fX12_rhymeOf μ a0 a1 = some out) (hK : Q (some (.int out)) (go_mk tx μ)) : Go w 0 0 0 mtX12_rhymeOf 0 [(0, .ref 401), (1, .int a0), (2, .int a1)] [] (go_mk tx μ) (go_Z w Q) := by
  unfold fX12_rhymeOf at h
  refine go_aload_n dX12_rhymeOf_0 0 rfl ?_
  refine pp_getR dX12_rhymeOf_1 ff_X12_7 (Or.inr ⟨_, rfl⟩) sh_401 rf_401_0 ?_
  refine go_bipush (v := 30) dX12_rhymeOf_4 (by decide) ?_
  refine go_iload_n dX12_rhymeOf_6 1 rfl ?_
  refine go_iadd dX12_rhymeOf_7 ?_
  obtain ⟨hz1, h⟩ := go_chk_e h
  refine pp_ild dX12_rhymeOf_8 sh_402 hz1 ?_
  obtain ⟨x2, hx2, h⟩ := go_let_e h
  refine go_top hx2 ?_
  refine go_istore_n dX12_rhymeOf_9 (by decide) rfl ?_
  show Go w 0 0 0 mtX12_rhymeOf 10 [(3, .int x2), (0, .ref 401), (1, .int a0), (2, .int a1)] [] (go_mk tx μ) (go_Z w Q)
  refine go_aload_n dX12_rhymeOf_10 1 rfl ?_
  refine pp_getR dX12_rhymeOf_11 ff_X12_7 (Or.inr ⟨_, rfl⟩) sh_401 rf_401_0 ?_
  refine go_bipush (v := 30) dX12_rhymeOf_14 (by decide) ?_
  refine go_iload_n dX12_rhymeOf_16 3 rfl ?_
  refine go_iadd dX12_rhymeOf_17 ?_
  obtain ⟨hz3, h⟩ := go_chk_e h
  refine pp_ild dX12_rhymeOf_18 sh_402 hz3 ?_
  obtain ⟨x4, hx4, h⟩ := go_let_e h
  refine go_top hx4 ?_
  refine go_istore dX12_rhymeOf_19 (by decide) rfl ?_
  show Go w 0 0 0 mtX12_rhymeOf 21 [(4, .int x4), (3, .int x2), (0, .ref 401), (1, .int a0), (2, .int a1)] [] (go_mk tx μ) (go_Z w Q)
  refine go_iconst (v := 0) dX12_rhymeOf_21 (by decide) ?_
  refine go_istore dX12_rhymeOf_22 (by decide) rfl ?_
  show Go w 0 0 0 mtX12_rhymeOf 24 [(5, .int 0), (4, .int x4), (3, .int x2), (0, .ref 401), (1, .int a0), (2, .int a1)] [] (go_mk tx μ) (go_Z w Q)
  obtain ⟨ρ5, hρ5, h⟩ := go_bind h
  refine go_pick [2, 1, 0] rfl ?_
  refine go_lp (G := ggX12_rhymeOf_24 w tx Q μ a0 a1 ) (E := eeX12_rhymeOf_24 w tx Q μ a0 a1 ) (fun s out h hK => lqX12_rhymeOf_24 w tx Q μ a0 a1   s.1 s.2.1 s.2.2 out h hK) go_fuel (x2, x4, 0) ρ5 hρ5 ?_
  cases h
  exact hK
theorem ctX12_rhymeOf {w : go_Wd} {tx : Nat} {μ : PM} {a0 : Int32} {a1 : Int32} {r : Int32}  (h : fX12_rhymeOf μ a0 a1 = some r) : Ct w 0 0 0 mtX12_rhymeOf [.ref 401, .int a0, .int a1] (go_mk tx μ) (fun r' M' => r' = some (.int r) ∧ M' = go_mk tx μ) :=
  go_entry rfl (by decide) (Nat.le_of_ble_eq_true rfl) (cmX12_rhymeOf w tx _ μ a0 a1 _ h ⟨rfl, rfl⟩)
def fX12_rhyme (μ : PM) (a0 : Int32) (a1 : Int32) : Option (Int32) :=
  (if (fX12_isName μ a0) = 0 then some ((-1)) else (if (fX12_isName μ a1) = 0 then some ((-1)) else (fX12_rhymeOf μ a0 a1).bind fun q1 => some (q1)))
set_option maxRecDepth 20000 in
set_option maxHeartbeats 4000000 in
theorem cmX12_rhyme (w : go_Wd) (tx : Nat) (Q : Option Value → go_M → Prop) (μ : PM) (a0 : Int32) (a1 : Int32) (out : Int32) (h : fX12_rhyme μ a0 a1 = some out) (hK : Q (some (.int out)) (go_mk tx μ)) : Go w 2 0 0 mtX12_rhyme 0 [(0, .ref 401), (1, .int a0), (2, .int a1)] [] (go_mk tx μ) (go_Z w Q) := by
  unfold fX12_rhyme at h
  refine go_aload_n dX12_rhyme_0 0 rfl ?_
  refine go_iload_n dX12_rhyme_1 1 rfl ?_
  refine pp_callV (as := [.int a0]) (st := []) (rv := (some (.int (fX12_isName μ a0)))) (μ1 := μ) (st1 := [.int (fX12_isName μ a0)]) dX12_rhyme_2 ll_X12_261 sh_401 (by decide) rfl (ctX12_isName  rfl) rfl (Nat.le_of_ble_eq_true rfl) (Nat.le_of_ble_eq_true rfl) (go_Z_up w _) rfl rfl ?_
  refine go_if_eq 25 dX12_rhyme_5 (by decide) (fun hc => ?_) (fun hc => ?_)
  · have h := go_ifp hc h
    refine go_iconst (v := (-1)) dX12_rhyme_25 (by decide) ?_
    cases h
    exact go_iret dX12_rhyme_26 rfl hK
  · have h := go_ifn hc h
    refine go_aload_n dX12_rhyme_8 0 rfl ?_
    refine go_iload_n dX12_rhyme_9 2 rfl ?_
    refine pp_callV (as := [.int a1]) (st := []) (rv := (some (.int (fX12_isName μ a1)))) (μ1 := μ) (st1 := [.int (fX12_isName μ a1)]) dX12_rhyme_10 ll_X12_261 sh_401 (by decide) rfl (ctX12_isName  rfl) rfl (Nat.le_of_ble_eq_true rfl) (Nat.le_of_ble_eq_true rfl) (go_Z_up w _) rfl rfl ?_
    refine go_if_eq 25 dX12_rhyme_13 (by decide) (fun hc => ?_) (fun hc => ?_)
    · have h := go_ifp hc h
      refine go_iconst (v := (-1)) dX12_rhyme_25 (by decide) ?_
      cases h
      exact go_iret dX12_rhyme_26 rfl hK
    · have h := go_ifn hc h
      refine go_aload_n dX12_rhyme_16 0 rfl ?_
      refine go_iload_n dX12_rhyme_17 1 rfl ?_
      refine go_iload_n dX12_rhyme_18 2 rfl ?_
      obtain ⟨q1, hq1, h⟩ := go_bind h
      refine pp_callV (as := [.int a0, .int a1]) (st := []) (rv := (some (.int q1))) (μ1 := μ) (st1 := [.int q1]) dX12_rhyme_19 ll_X12_448 sh_401 (by decide) rfl (ctX12_rhymeOf  hq1) rfl (Nat.le_of_ble_eq_true rfl) (Nat.le_of_ble_eq_true rfl) (go_Z_up w _) rfl rfl ?_
      refine go_goto 26 dX12_rhyme_22 (by decide) ?_
      cases h
      exact go_iret dX12_rhyme_26 rfl hK
theorem ctX12_rhyme {w : go_Wd} {tx : Nat} {μ : PM} {a0 : Int32} {a1 : Int32} {r : Int32}  (h : fX12_rhyme μ a0 a1 = some r) : Ct w 2 0 0 mtX12_rhyme [.ref 401, .int a0, .int a1] (go_mk tx μ) (fun r' M' => r' = some (.int r) ∧ M' = go_mk tx μ) :=
  go_entry rfl (by decide) (Nat.le_of_ble_eq_true rfl) (cmX12_rhyme w tx _ μ a0 a1 _ h ⟨rfl, rfl⟩)
def jjX12_kindred_50_14 (μ : PM) (a0 : Int32) (v2 : Int32) (v3 : Int32) (s0 : Int32) (s1 : Int32) : Option ((Int32 × Int32) ⊕ (Int32)) :=
  (if s0 ≤ s1 then some (.inl (v2, (v3 + 1))) else some (.inl (v3, (v3 + 1))))
def lbX12_kindred_14 (μ : PM) (a0 : Int32)  (v2 : Int32) (v3 : Int32) : Option ((Int32 × Int32) ⊕ (Int32)) :=
  (if (μ.1 402 0) ≤ v3 then some (.inr (v2)) else (if v3 = a0 then some (.inl (v2, (v3 + 1))) else (fX12_rhymeOf μ a0 v3).bind fun q1 => (if v2 = (-1) then jjX12_kindred_50_14 μ a0 v2 v3 q1 0 else (fX12_rhymeOf μ a0 v2).bind fun q2 => jjX12_kindred_50_14 μ a0 v2 v3 q1 q2)))
def fX12_kindred (μ : PM) (a0 : Int32) : Option (Int32) :=
  (if (fX12_isName μ a0) = 0 then some ((-1)) else ((lp (fun s => lbX12_kindred_14 μ a0 s.1 s.2) go_fuel ((-1), 0)).bind fun ρ3 => some ρ3))
def ggX12_kindred_14 (w : go_Wd) (tx : Nat) (Q : Option Value → go_M → Prop) (μ : PM) (a0 : Int32)  (s : Int32 × Int32) : Prop := Go w 2 0 0 mtX12_kindred 14 [(0, .ref 401), (1, .int a0), (2, .int s.1), (3, .int s.2)] [] (go_mk tx μ) (go_Z w Q)
def eeX12_kindred_14 (w : go_Wd) (tx : Nat) (Q : Option Value → go_M → Prop) (μ : PM) (a0 : Int32)  (y : Int32) : Prop := Q (some (.int y)) (go_mk tx μ)
set_option maxRecDepth 20000 in
set_option maxHeartbeats 4000000 in
theorem jqX12_kindred_50_14 (w : go_Wd) (tx : Nat) (Q : Option Value → go_M → Prop) (μ : PM) (a0 : Int32) (v2 : Int32) (v3 : Int32)  (s0 : Int32) (s1 : Int32)  (out : (Int32 × Int32) ⊕ (Int32)) (h : jjX12_kindred_50_14 μ a0 v2 v3 s0 s1 = some out) (hK : go_out (ggX12_kindred_14 w tx Q μ a0 ) (eeX12_kindred_14 w tx Q μ a0 ) out) : Go w 2 0 0 mtX12_kindred 50 [(0, .ref 401), (1, .int a0), (2, .int v2), (3, .int v3)] [.int s1, .int s0] (go_mk tx μ) (go_Z w Q) := by
  unfold jjX12_kindred_50_14 at h
  refine go_icmp_le 55 dX12_kindred_50 (by decide) (fun hc => ?_) (fun hc => ?_)
  · have h := go_ifp hc h
    refine go_iinc (v := (v3 + 1)) dX12_kindred_55 3 rfl rfl (by decide) rfl ?_
    show Go w 2 0 0 mtX12_kindred 58 [(3, .int (v3 + 1)), (0, .ref 401), (1, .int a0), (2, .int v2)] [] (go_mk tx μ) (go_Z w Q)
    refine go_goto 14 dX12_kindred_58 (by decide) ?_
    cases h
    have hK : Go w 2 0 0 mtX12_kindred 14 [(0, .ref 401), (1, .int a0), (2, .int v2), (3, .int (v3 + 1))] [] (go_mk tx μ) (go_Z w Q) := hK
    exact go_pick [1, 2, 3, 0] rfl hK
  · have h := go_ifn hc h
    refine go_iload_n dX12_kindred_53 3 rfl ?_
    refine go_istore_n dX12_kindred_54 (by decide) rfl ?_
    show Go w 2 0 0 mtX12_kindred 55 [(2, .int v3), (0, .ref 401), (1, .int a0), (3, .int v3)] [] (go_mk tx μ) (go_Z w Q)
    refine go_iinc (v := (v3 + 1)) dX12_kindred_55 3 rfl rfl (by decide) rfl ?_
    show Go w 2 0 0 mtX12_kindred 58 [(3, .int (v3 + 1)), (2, .int v3), (0, .ref 401), (1, .int a0)] [] (go_mk tx μ) (go_Z w Q)
    refine go_goto 14 dX12_kindred_58 (by decide) ?_
    cases h
    have hK : Go w 2 0 0 mtX12_kindred 14 [(0, .ref 401), (1, .int a0), (2, .int v3), (3, .int (v3 + 1))] [] (go_mk tx μ) (go_Z w Q) := hK
    exact go_pick [2, 3, 1, 0] rfl hK
set_option maxRecDepth 20000 in
set_option maxHeartbeats 4000000 in
theorem lqX12_kindred_14 (w : go_Wd) (tx : Nat) (Q : Option Value → go_M → Prop) (μ : PM) (a0 : Int32)   (v2 : Int32) (v3 : Int32) (out : (Int32 × Int32) ⊕ (Int32)) (h : lbX12_kindred_14 μ a0  v2 v3 = some out) (hK : go_out (ggX12_kindred_14 w tx Q μ a0 ) (eeX12_kindred_14 w tx Q μ a0 ) out) : ggX12_kindred_14 w tx Q μ a0  (v2, v3) := by
  unfold lbX12_kindred_14 at h
  show Go w 2 0 0 mtX12_kindred 14 [(0, .ref 401), (1, .int a0), (2, .int v2), (3, .int v3)] [] (go_mk tx μ) (go_Z w Q)
  refine go_iload_n dX12_kindred_14 3 rfl ?_
  refine go_aload_n dX12_kindred_15 0 rfl ?_
  refine pp_getR dX12_kindred_16 ff_X12_7 (Or.inr ⟨_, rfl⟩) sh_401 rf_401_0 ?_
  refine go_iconst (v := 0) dX12_kindred_19 (by decide) ?_
  refine pp_ildc (q := 0) dX12_kindred_20 sh_402 (by decide) ?_
  refine go_icmp_ge 61 dX12_kindred_21 (by decide) (fun hc => ?_) (fun hc => ?_)
  · have h := go_ifp hc h
    refine go_iload_n dX12_kindred_61 2 rfl ?_
    cases h
    exact go_iret dX12_kindred_62 rfl hK
  · have h := go_ifn hc h
    refine go_iload_n dX12_kindred_24 3 rfl ?_
    refine go_iload_n dX12_kindred_25 1 rfl ?_
    refine go_icmp_eq 55 dX12_kindred_26 (by decide) (fun hc => ?_) (fun hc => ?_)
    · have h := go_ifp hc h
      refine go_iinc (v := (v3 + 1)) dX12_kindred_55 3 rfl rfl (by decide) rfl ?_
      show Go w 2 0 0 mtX12_kindred 58 [(3, .int (v3 + 1)), (0, .ref 401), (1, .int a0), (2, .int v2)] [] (go_mk tx μ) (go_Z w Q)
      refine go_goto 14 dX12_kindred_58 (by decide) ?_
      cases h
      have hK : Go w 2 0 0 mtX12_kindred 14 [(0, .ref 401), (1, .int a0), (2, .int v2), (3, .int (v3 + 1))] [] (go_mk tx μ) (go_Z w Q) := hK
      exact go_pick [1, 2, 3, 0] rfl hK
    · have h := go_ifn hc h
      refine go_aload_n dX12_kindred_29 0 rfl ?_
      refine go_iload_n dX12_kindred_30 1 rfl ?_
      refine go_iload_n dX12_kindred_31 3 rfl ?_
      obtain ⟨q1, hq1, h⟩ := go_bind h
      refine pp_callV (as := [.int a0, .int v3]) (st := []) (rv := (some (.int q1))) (μ1 := μ) (st1 := [.int q1]) dX12_kindred_32 ll_X12_448 sh_401 (by decide) rfl (ctX12_rhymeOf  hq1) rfl (Nat.le_of_ble_eq_true rfl) (Nat.le_of_ble_eq_true rfl) (go_Z_up w _) rfl rfl ?_
      refine go_iload_n dX12_kindred_35 2 rfl ?_
      refine go_iconst (v := (-1)) dX12_kindred_36 (by decide) ?_
      refine go_icmp_ne 44 dX12_kindred_37 (by decide) (fun hc => ?_) (fun hc => ?_)
      · have h := go_ifn hc h
        refine go_aload_n dX12_kindred_44 0 rfl ?_
        refine go_iload_n dX12_kindred_45 1 rfl ?_
        refine go_iload_n dX12_kindred_46 2 rfl ?_
        obtain ⟨q2, hq2, h⟩ := go_bind h
        refine pp_callV (as := [.int a0, .int v2]) (st := [.int q1]) (rv := (some (.int q2))) (μ1 := μ) (st1 := [.int q2, .int q1]) dX12_kindred_47 ll_X12_448 sh_401 (by decide) rfl (ctX12_rhymeOf  hq2) rfl (Nat.le_of_ble_eq_true rfl) (Nat.le_of_ble_eq_true rfl) (go_Z_up w _) rfl rfl ?_
        refine go_pick [0, 1, 2, 3] rfl ?_
        exact jqX12_kindred_50_14 w tx Q μ a0 v2 v3  q1 q2  _ h hK
      · have h := go_ifp hc h
        refine go_iconst (v := 0) dX12_kindred_40 (by decide) ?_
        refine go_goto 50 dX12_kindred_41 (by decide) ?_
        refine go_pick [0, 1, 2, 3] rfl ?_
        exact jqX12_kindred_50_14 w tx Q μ a0 v2 v3  q1 0  _ h hK
set_option maxRecDepth 20000 in
set_option maxHeartbeats 4000000 in
theorem cmX12_kindred (w : go_Wd) (tx : Nat) (Q : Option Value → go_M → Prop) (μ : PM) (a0 : Int32) (out : Int32) (h : fX12_kindred μ a0 = some out) (hK : Q (some (.int out)) (go_mk tx μ)) : Go w 2 0 0 mtX12_kindred 0 [(0, .ref 401), (1, .int a0)] [] (go_mk tx μ) (go_Z w Q) := by
  unfold fX12_kindred at h
  refine go_aload_n dX12_kindred_0 0 rfl ?_
  refine go_iload_n dX12_kindred_1 1 rfl ?_
  refine pp_callV (as := [.int a0]) (st := []) (rv := (some (.int (fX12_isName μ a0)))) (μ1 := μ) (st1 := [.int (fX12_isName μ a0)]) dX12_kindred_2 ll_X12_261 sh_401 (by decide) rfl (ctX12_isName  rfl) rfl (Nat.le_of_ble_eq_true rfl) (Nat.le_of_ble_eq_true rfl) (go_Z_up w _) rfl rfl ?_
  refine go_if_ne 10 dX12_kindred_5 (by decide) (fun hc => ?_) (fun hc => ?_)
  · have h := go_ifn hc h
    refine go_iconst (v := (-1)) dX12_kindred_10 (by decide) ?_
    refine go_istore_n dX12_kindred_11 (by decide) rfl ?_
    show Go w 2 0 0 mtX12_kindred 12 [(2, .int (-1)), (0, .ref 401), (1, .int a0)] [] (go_mk tx μ) (go_Z w Q)
    refine go_iconst (v := 0) dX12_kindred_12 (by decide) ?_
    refine go_istore_n dX12_kindred_13 (by decide) rfl ?_
    show Go w 2 0 0 mtX12_kindred 14 [(3, .int 0), (2, .int (-1)), (0, .ref 401), (1, .int a0)] [] (go_mk tx μ) (go_Z w Q)
    obtain ⟨ρ3, hρ3, h⟩ := go_bind h
    refine go_pick [2, 3, 1, 0] rfl ?_
    refine go_lp (G := ggX12_kindred_14 w tx Q μ a0 ) (E := eeX12_kindred_14 w tx Q μ a0 ) (fun s out h hK => lqX12_kindred_14 w tx Q μ a0   s.1 s.2 out h hK) go_fuel ((-1), 0) ρ3 hρ3 ?_
    cases h
    exact hK
  · have h := go_ifp hc h
    refine go_iconst (v := (-1)) dX12_kindred_8 (by decide) ?_
    cases h
    exact go_iret dX12_kindred_9 rfl hK
theorem ctX12_kindred {w : go_Wd} {tx : Nat} {μ : PM} {a0 : Int32} {r : Int32}  (h : fX12_kindred μ a0 = some r) : Ct w 2 0 0 mtX12_kindred [.ref 401, .int a0] (go_mk tx μ) (fun r' M' => r' = some (.int r) ∧ M' = go_mk tx μ) :=
  go_entry rfl (by decide) (Nat.le_of_ble_eq_true rfl) (cmX12_kindred w tx _ μ a0 _ h ⟨rfl, rfl⟩)
def fX12_quota (μ : PM) (a0 : Int32) : Int32 × PM :=
  (if (fX12_isIn a0 1 99) = 0 then (0, μ) else go_let (pm_wi μ 402 125 a0) fun μ1 => (1, μ1))
set_option maxRecDepth 20000 in
set_option maxHeartbeats 4000000 in
theorem cmX12_quota (w : go_Wd) (tx : Nat) (Q : Option Value → go_M → Prop) (μ : PM) (a0 : Int32) (out : Int32 × PM) (h : fX12_quota μ a0 = out) (hK : Q (some (.int out.1)) (go_mk tx out.2)) : Go w 1 0 0 mtX12_quota 0 [(0, .ref 401), (1, .int a0)] [] (go_mk tx μ) (go_Z w Q) := by
  unfold fX12_quota at h
  refine go_iload_n dX12_quota_0 1 rfl ?_
  refine go_iconst (v := 1) dX12_quota_1 (by decide) ?_
  refine go_bipush (v := 99) dX12_quota_2 (by decide) ?_
  refine pp_callS (as := [.int a0, .int 1, .int 99]) (st := []) (rv := (some (.int (fX12_isIn a0 1 99)))) (μ1 := μ) (st1 := [.int (fX12_isIn a0 1 99)]) dX12_quota_4 ll_X12_63 (ctX12_isIn  rfl) rfl (Nat.le_of_ble_eq_true rfl) (Nat.le_of_ble_eq_true rfl) (go_Z_up w _) rfl rfl ?_
  refine go_if_ne 12 dX12_quota_7 (by decide) (fun hc => ?_) (fun hc => ?_)
  · have h := go_ifn hc h
    refine go_aload_n dX12_quota_12 0 rfl ?_
    refine pp_getR dX12_quota_13 ff_X12_7 (Or.inr ⟨_, rfl⟩) sh_401 rf_401_0 ?_
    refine go_bipush (v := 125) dX12_quota_16 (by decide) ?_
    refine go_iload_n dX12_quota_18 1 rfl ?_
    obtain ⟨μ1, hμ1, h⟩ := go_let_e h
    refine pp_istc (q := 125) dX12_quota_19 sh_402 (by decide) hμ1 ?_
    refine go_iconst (v := 1) dX12_quota_20 (by decide) ?_
    subst h
    exact go_zret dX12_quota_21 rfl (Or.inr rfl) hK
  · have h := go_ifp hc h
    refine go_iconst (v := 0) dX12_quota_10 (by decide) ?_
    subst h
    exact go_zret dX12_quota_11 rfl (Or.inl rfl) hK
theorem ctX12_quota {w : go_Wd} {tx : Nat} {μ : PM} {a0 : Int32} {r : Int32} {μ1 : PM}  (h : fX12_quota μ a0 = (r, μ1)) : Ct w 1 0 0 mtX12_quota [.ref 401, .int a0] (go_mk tx μ) (fun r' M' => r' = some (.int r) ∧ M' = go_mk tx μ1) :=
  go_entry rfl (by decide) (Nat.le_of_ble_eq_true rfl) (cmX12_quota w tx _ μ a0 _ h ⟨rfl, rfl⟩)
def jjX12_isMuch_36_4 (μ : PM) (a0 : Int32) (v3 : Int32) (s0 : Int32) (s1 : Int32) : Option ((Int32 × Int32) ⊕ ((Int32) ⊕ (Int32))) :=
  some (.inl ((s0 + s1), (v3 + 1)))
def lbX12_isMuch_4 (μ : PM) (a0 : Int32)  (v2 : Int32) (v3 : Int32) : Option ((Int32 × Int32) ⊕ ((Int32) ⊕ (Int32))) :=
  (if (μ.1 402 1) ≤ v3 then some (.inr (.inl v2)) else (if (fX12_has a0 v3) = 0 then jjX12_isMuch_36_4 μ a0 v3 v2 0 else go_chk (42 + v3) 1792 <| jjX12_isMuch_36_4 μ a0 v3 v2 ((μ.1 402 ((42 + v3) : Int32).toNatClampNeg))))
def fX12_isMuch (μ : PM) (a0 : Int32) : Option (Int32) :=
  ((lp (fun s => lbX12_isMuch_4 μ a0 s.1 s.2) go_fuel (0, 0)).bind fun ρ2 => go_cs ρ2 (fun e3 => (if e3 < (μ.1 402 125) then some (0) else some (1))) (fun y => some y))
def ggX12_isMuch_4 (w : go_Wd) (tx : Nat) (Q : Option Value → go_M → Prop) (μ : PM) (a0 : Int32)  (s : Int32 × Int32) : Prop := Go w 1 0 0 mtX12_isMuch 4 [(0, .ref 401), (1, .int a0), (2, .int s.1), (3, .int s.2)] [] (go_mk tx μ) (go_Z w Q)
def eeX12_isMuch_4 (w : go_Wd) (tx : Nat) (Q : Option Value → go_M → Prop) (μ : PM) (a0 : Int32)  : (Int32) ⊕ (Int32) → Prop
  | .inl e => Go w 1 0 0 mtX12_isMuch 44 [(0, .ref 401), (2, .int e)] [] (go_mk tx μ) (go_Z w Q)
  | .inr y => Q (some (.int y)) (go_mk tx μ)
set_option maxRecDepth 20000 in
set_option maxHeartbeats 4000000 in
theorem jqX12_isMuch_36_4 (w : go_Wd) (tx : Nat) (Q : Option Value → go_M → Prop) (μ : PM) (a0 : Int32) (v3 : Int32)  (s0 : Int32) (s1 : Int32)  (out : (Int32 × Int32) ⊕ ((Int32) ⊕ (Int32))) (h : jjX12_isMuch_36_4 μ a0 v3 s0 s1 = some out) (hK : go_out (ggX12_isMuch_4 w tx Q μ a0 ) (eeX12_isMuch_4 w tx Q μ a0 ) out) : Go w 1 0 0 mtX12_isMuch 36 [(0, .ref 401), (1, .int a0), (3, .int v3)] [.int s1, .int s0] (go_mk tx μ) (go_Z w Q) := by
  unfold jjX12_isMuch_36_4 at h
  refine go_iadd dX12_isMuch_36 ?_
  refine go_istore_n dX12_isMuch_37 (by decide) rfl ?_
  show Go w 1 0 0 mtX12_isMuch 38 [(2, .int (s0 + s1)), (0, .ref 401), (1, .int a0), (3, .int v3)] [] (go_mk tx μ) (go_Z w Q)
  refine go_iinc (v := (v3 + 1)) dX12_isMuch_38 3 rfl rfl (by decide) rfl ?_
  show Go w 1 0 0 mtX12_isMuch 41 [(3, .int (v3 + 1)), (2, .int (s0 + s1)), (0, .ref 401), (1, .int a0)] [] (go_mk tx μ) (go_Z w Q)
  refine go_goto 4 dX12_isMuch_41 (by decide) ?_
  cases h
  have hK : Go w 1 0 0 mtX12_isMuch 4 [(0, .ref 401), (1, .int a0), (2, .int (s0 + s1)), (3, .int (v3 + 1))] [] (go_mk tx μ) (go_Z w Q) := hK
  exact go_pick [2, 3, 1, 0] rfl hK
set_option maxRecDepth 20000 in
set_option maxHeartbeats 4000000 in
theorem lqX12_isMuch_4 (w : go_Wd) (tx : Nat) (Q : Option Value → go_M → Prop) (μ : PM) (a0 : Int32)   (v2 : Int32) (v3 : Int32) (out : (Int32 × Int32) ⊕ ((Int32) ⊕ (Int32))) (h : lbX12_isMuch_4 μ a0  v2 v3 = some out) (hK : go_out (ggX12_isMuch_4 w tx Q μ a0 ) (eeX12_isMuch_4 w tx Q μ a0 ) out) : ggX12_isMuch_4 w tx Q μ a0  (v2, v3) := by
  unfold lbX12_isMuch_4 at h
  show Go w 1 0 0 mtX12_isMuch 4 [(0, .ref 401), (1, .int a0), (2, .int v2), (3, .int v3)] [] (go_mk tx μ) (go_Z w Q)
  refine go_iload_n dX12_isMuch_4 3 rfl ?_
  refine go_aload_n dX12_isMuch_5 0 rfl ?_
  refine pp_getR dX12_isMuch_6 ff_X12_7 (Or.inr ⟨_, rfl⟩) sh_401 rf_401_0 ?_
  refine go_iconst (v := 1) dX12_isMuch_9 (by decide) ?_
  refine pp_ildc (q := 1) dX12_isMuch_10 sh_402 (by decide) ?_
  refine go_icmp_ge 44 dX12_isMuch_11 (by decide) (fun hc => ?_) (fun hc => ?_)
  · have h := go_ifp hc h
    cases h
    have hK : Go w 1 0 0 mtX12_isMuch 44 [(0, .ref 401), (2, .int v2)] [] (go_mk tx μ) (go_Z w Q) := hK
    exact go_pick [0, 2] rfl hK
  · have h := go_ifn hc h
    refine go_iload_n dX12_isMuch_14 2 rfl ?_
    refine go_iload_n dX12_isMuch_15 1 rfl ?_
    refine go_iload_n dX12_isMuch_16 3 rfl ?_
    refine pp_callS (as := [.int a0, .int v3]) (st := [.int v2]) (rv := (some (.int (fX12_has a0 v3)))) (μ1 := μ) (st1 := [.int (fX12_has a0 v3), .int v2]) dX12_isMuch_17 ll_X12_239 (ctX12_has  rfl) rfl (Nat.le_of_ble_eq_true rfl) (Nat.le_of_ble_eq_true rfl) (go_Z_up w _) rfl rfl ?_
    refine go_if_eq 35 dX12_isMuch_20 (by decide) (fun hc => ?_) (fun hc => ?_)
    · have h := go_ifp hc h
      refine go_iconst (v := 0) dX12_isMuch_35 (by decide) ?_
      refine go_pick [0, 1, 3] rfl ?_
      exact jqX12_isMuch_36_4 w tx Q μ a0 v3  v2 0  _ h hK
    · have h := go_ifn hc h
      refine go_aload_n dX12_isMuch_23 0 rfl ?_
      refine pp_getR dX12_isMuch_24 ff_X12_7 (Or.inr ⟨_, rfl⟩) sh_401 rf_401_0 ?_
      refine go_bipush (v := 42) dX12_isMuch_27 (by decide) ?_
      refine go_iload_n dX12_isMuch_29 3 rfl ?_
      refine go_iadd dX12_isMuch_30 ?_
      obtain ⟨hz1, h⟩ := go_chk_e h
      refine pp_ild dX12_isMuch_31 sh_402 hz1 ?_
      refine go_goto 36 dX12_isMuch_32 (by decide) ?_
      refine go_pick [0, 1, 3] rfl ?_
      exact jqX12_isMuch_36_4 w tx Q μ a0 v3  v2 ((μ.1 402 ((42 + v3) : Int32).toNatClampNeg))  _ h hK
set_option maxRecDepth 20000 in
set_option maxHeartbeats 4000000 in
theorem cmX12_isMuch (w : go_Wd) (tx : Nat) (Q : Option Value → go_M → Prop) (μ : PM) (a0 : Int32) (out : Int32) (h : fX12_isMuch μ a0 = some out) (hK : Q (some (.int out)) (go_mk tx μ)) : Go w 1 0 0 mtX12_isMuch 0 [(0, .ref 401), (1, .int a0)] [] (go_mk tx μ) (go_Z w Q) := by
  unfold fX12_isMuch at h
  refine go_iconst (v := 0) dX12_isMuch_0 (by decide) ?_
  refine go_istore_n dX12_isMuch_1 (by decide) rfl ?_
  show Go w 1 0 0 mtX12_isMuch 2 [(2, .int 0), (0, .ref 401), (1, .int a0)] [] (go_mk tx μ) (go_Z w Q)
  refine go_iconst (v := 0) dX12_isMuch_2 (by decide) ?_
  refine go_istore_n dX12_isMuch_3 (by decide) rfl ?_
  show Go w 1 0 0 mtX12_isMuch 4 [(3, .int 0), (2, .int 0), (0, .ref 401), (1, .int a0)] [] (go_mk tx μ) (go_Z w Q)
  obtain ⟨ρ2, hρ2, h⟩ := go_bind h
  refine go_pick [2, 3, 1, 0] rfl ?_
  refine go_lp (G := ggX12_isMuch_4 w tx Q μ a0 ) (E := eeX12_isMuch_4 w tx Q μ a0 ) (fun s out h hK => lqX12_isMuch_4 w tx Q μ a0   s.1 s.2 out h hK) go_fuel (0, 0) ρ2 hρ2 ?_
  rcases ρ2 with e3 | y
  · have h := go_csl h
    show Go w 1 0 0 mtX12_isMuch 44 [(0, .ref 401), (2, .int e3)] [] (go_mk tx μ) (go_Z w Q)
    refine go_iload_n dX12_isMuch_44 1 rfl ?_
    refine go_aload_n dX12_isMuch_45 0 rfl ?_
    refine pp_getR dX12_isMuch_46 ff_X12_7 (Or.inr ⟨_, rfl⟩) sh_401 rf_401_0 ?_
    refine go_bipush (v := 125) dX12_isMuch_49 (by decide) ?_
    refine pp_ildc (q := 125) dX12_isMuch_51 sh_402 (by decide) ?_
    refine go_icmp_lt 59 dX12_isMuch_52 (by decide) (fun hc => ?_) (fun hc => ?_)
    · have h := go_ifp hc h
      refine go_iconst (v := 0) dX12_isMuch_59 (by decide) ?_
      cases h
      exact go_zret dX12_isMuch_60 rfl (Or.inl rfl) hK
    · have h := go_ifn hc h
      refine go_iconst (v := 1) dX12_isMuch_55 (by decide) ?_
      refine go_goto 60 dX12_isMuch_56 (by decide) ?_
      cases h
      exact go_zret dX12_isMuch_60 rfl (Or.inr rfl) hK
  · have h := go_csr h
    cases h
    exact hK
theorem ctX12_isMuch {w : go_Wd} {tx : Nat} {μ : PM} {a0 : Int32} {r : Int32}  (h : fX12_isMuch μ a0 = some r) : Ct w 1 0 0 mtX12_isMuch [.ref 401, .int a0] (go_mk tx μ) (fun r' M' => r' = some (.int r) ∧ M' = go_mk tx μ) :=
  go_entry rfl (by decide) (Nat.le_of_ble_eq_true rfl) (cmX12_isMuch w tx _ μ a0 _ h ⟨rfl, rfl⟩)
def lbX12_orders_4 (a0 : Int32)  (v1 : Int32) (v2 : Int32) : Option ((Int32 × Int32) ⊕ (Int32)) :=
  (if a0 < v2 then some (.inr (v1)) else some (.inl ((v1 * v2), (v2 + 1))))
def fX12_orders (a0 : Int32) : Option (Int32) :=
  ((lp (fun s => lbX12_orders_4 a0 s.1 s.2) go_fuel (1, 2)).bind fun ρ1 => some ρ1)
def ggX12_orders_4 (w : go_Wd) (tx : Nat) (Q : Option Value → go_M → Prop) (μ : PM) (a0 : Int32)  (s : Int32 × Int32) : Prop := Go w 0 0 0 mtX12_orders 4 [(0, .int a0), (1, .int s.1), (2, .int s.2)] [] (go_mk tx μ) (go_Z w Q)
def eeX12_orders_4 (w : go_Wd) (tx : Nat) (Q : Option Value → go_M → Prop) (μ : PM) (a0 : Int32)  (y : Int32) : Prop := Q (some (.int y)) (go_mk tx μ)
set_option maxRecDepth 20000 in
set_option maxHeartbeats 4000000 in
theorem lqX12_orders_4 (w : go_Wd) (tx : Nat) (Q : Option Value → go_M → Prop) (μ : PM) (a0 : Int32)   (v1 : Int32) (v2 : Int32) (out : (Int32 × Int32) ⊕ (Int32)) (h : lbX12_orders_4 a0  v1 v2 = some out) (hK : go_out (ggX12_orders_4 w tx Q μ a0 ) (eeX12_orders_4 w tx Q μ a0 ) out) : ggX12_orders_4 w tx Q μ a0  (v1, v2) := by
  unfold lbX12_orders_4 at h
  show Go w 0 0 0 mtX12_orders 4 [(0, .int a0), (1, .int v1), (2, .int v2)] [] (go_mk tx μ) (go_Z w Q)
  refine go_iload_n dX12_orders_4 2 rfl ?_
  refine go_iload_n dX12_orders_5 0 rfl ?_
  refine go_icmp_gt 19 dX12_orders_6 (by decide) (fun hc => ?_) (fun hc => ?_)
  · have h := go_ifp hc h
    refine go_iload_n dX12_orders_19 1 rfl ?_
    cases h
    exact go_iret dX12_orders_20 rfl hK
  · have h := go_ifn hc h
    refine go_iload_n dX12_orders_9 1 rfl ?_
    refine go_iload_n dX12_orders_10 2 rfl ?_
    refine go_imul dX12_orders_11 ?_
    refine go_istore_n dX12_orders_12 (by decide) rfl ?_
    show Go w 0 0 0 mtX12_orders 13 [(1, .int (v1 * v2)), (0, .int a0), (2, .int v2)] [] (go_mk tx μ) (go_Z w Q)
    refine go_iinc (v := (v2 + 1)) dX12_orders_13 2 rfl rfl (by decide) rfl ?_
    show Go w 0 0 0 mtX12_orders 16 [(2, .int (v2 + 1)), (1, .int (v1 * v2)), (0, .int a0)] [] (go_mk tx μ) (go_Z w Q)
    refine go_goto 4 dX12_orders_16 (by decide) ?_
    cases h
    have hK : Go w 0 0 0 mtX12_orders 4 [(0, .int a0), (1, .int (v1 * v2)), (2, .int (v2 + 1))] [] (go_mk tx μ) (go_Z w Q) := hK
    exact go_pick [2, 1, 0] rfl hK
set_option maxRecDepth 20000 in
set_option maxHeartbeats 4000000 in
theorem cmX12_orders (w : go_Wd) (tx : Nat) (Q : Option Value → go_M → Prop) (μ : PM) (a0 : Int32) (out : Int32) (h : fX12_orders a0 = some out) (hK : Q (some (.int out)) (go_mk tx μ)) : Go w 0 0 0 mtX12_orders 0 [(0, .int a0)] [] (go_mk tx μ) (go_Z w Q) := by
  unfold fX12_orders at h
  refine go_iconst (v := 1) dX12_orders_0 (by decide) ?_
  refine go_istore_n dX12_orders_1 (by decide) rfl ?_
  show Go w 0 0 0 mtX12_orders 2 [(1, .int 1), (0, .int a0)] [] (go_mk tx μ) (go_Z w Q)
  refine go_iconst (v := 2) dX12_orders_2 (by decide) ?_
  refine go_istore_n dX12_orders_3 (by decide) rfl ?_
  show Go w 0 0 0 mtX12_orders 4 [(2, .int 2), (1, .int 1), (0, .int a0)] [] (go_mk tx μ) (go_Z w Q)
  obtain ⟨ρ1, hρ1, h⟩ := go_bind h
  refine go_pick [2, 1, 0] rfl ?_
  refine go_lp (G := ggX12_orders_4 w tx Q μ a0 ) (E := eeX12_orders_4 w tx Q μ a0 ) (fun s out h hK => lqX12_orders_4 w tx Q μ a0   s.1 s.2 out h hK) go_fuel (1, 2) ρ1 hρ1 ?_
  cases h
  exact hK
theorem ctX12_orders {w : go_Wd} {tx : Nat} {μ : PM} {a0 : Int32} {r : Int32}  (h : fX12_orders a0 = some r) : Ct w 0 0 0 mtX12_orders [.int a0] (go_mk tx μ) (fun r' M' => r' = some (.int r) ∧ M' = go_mk tx μ) :=
  go_entry rfl (by decide) (Nat.le_of_ble_eq_true rfl) (cmX12_orders w tx _ μ a0 _ h ⟨rfl, rfl⟩)
def lbX12_powerOf_12 (μ : PM) (a0 : Int32) (v2 : Int32) (v3 : Int32) (v4 : Int32) : Option ((Int32 × Int32) ⊕ (Int32)) :=
  (if ((1 : Int32) <<< (v2 &&& 31)) ≤ v4 then some (.inr (v3)) else (if (fX12_has v4 a0) = 0 then (fX12_isMuch μ v4).bind fun q1 => (if q1 = 0 then (fX12_isMuch μ (v4 ||| ((1 : Int32) <<< (a0 &&& 31)))).bind fun q2 => (if q2 = 0 then some (.inl (v3, (v4 + 1))) else (fX12_bits v4).bind fun q3 => (fX12_orders q3).bind fun q4 => (fX12_bits v4).bind fun q5 => (fX12_orders ((v2 - 1) - q5)).bind fun q6 => go_let ((v3 + (q4 * q6))) fun x7 => some (.inl (x7, (v4 + 1)))) else some (.inl (v3, (v4 + 1)))) else some (.inl (v3, (v4 + 1)))))
def fX12_powerOf (μ : PM) (a0 : Int32) : Option (Int32) :=
  ((lp (fun s => lbX12_powerOf_12 μ a0 ((μ.1 402 1)) s.1 s.2) go_fuel (0, 0)).bind fun ρ8 => some ρ8)
def ggX12_powerOf_12 (w : go_Wd) (tx : Nat) (Q : Option Value → go_M → Prop) (μ : PM) (a0 : Int32) (v2 : Int32) (s : Int32 × Int32) : Prop := Go w 2 0 0 mtX12_powerOf 12 [(0, .ref 401), (1, .int a0), (2, .int v2), (3, .int s.1), (4, .int s.2)] [] (go_mk tx μ) (go_Z w Q)
def eeX12_powerOf_12 (w : go_Wd) (tx : Nat) (Q : Option Value → go_M → Prop) (μ : PM) (a0 : Int32) (v2 : Int32) (y : Int32) : Prop := Q (some (.int y)) (go_mk tx μ)
set_option maxRecDepth 20000 in
set_option maxHeartbeats 4000000 in
theorem lqX12_powerOf_12 (w : go_Wd) (tx : Nat) (Q : Option Value → go_M → Prop) (μ : PM) (a0 : Int32) (v2 : Int32)  (v3 : Int32) (v4 : Int32) (out : (Int32 × Int32) ⊕ (Int32)) (h : lbX12_powerOf_12 μ a0 v2 v3 v4 = some out) (hK : go_out (ggX12_powerOf_12 w tx Q μ a0 v2) (eeX12_powerOf_12 w tx Q μ a0 v2) out) : ggX12_powerOf_12 w tx Q μ a0 v2 (v3, v4) := by
  unfold lbX12_powerOf_12 at h
  show Go w 2 0 0 mtX12_powerOf 12 [(0, .ref 401), (1, .int a0), (2, .int v2), (3, .int v3), (4, .int v4)] [] (go_mk tx μ) (go_Z w Q)
  refine go_iload dX12_powerOf_12 4 rfl ?_
  refine go_iconst (v := 1) dX12_powerOf_14 (by decide) ?_
  refine go_iload_n dX12_powerOf_15 2 rfl ?_
  refine go_ishl dX12_powerOf_16 ?_
  refine go_icmp_ge 81 dX12_powerOf_17 (by decide) (fun hc => ?_) (fun hc => ?_)
  · have h := go_ifp hc h
    refine go_iload_n dX12_powerOf_81 3 rfl ?_
    cases h
    exact go_iret dX12_powerOf_82 rfl hK
  · have h := go_ifn hc h
    refine go_iload dX12_powerOf_20 4 rfl ?_
    refine go_iload_n dX12_powerOf_22 1 rfl ?_
    refine pp_callS (as := [.int v4, .int a0]) (st := []) (rv := (some (.int (fX12_has v4 a0)))) (μ1 := μ) (st1 := [.int (fX12_has v4 a0)]) dX12_powerOf_23 ll_X12_239 (ctX12_has  rfl) rfl (Nat.le_of_ble_eq_true rfl) (Nat.le_of_ble_eq_true rfl) (go_Z_up w _) rfl rfl ?_
    refine go_if_ne 75 dX12_powerOf_26 (by decide) (fun hc => ?_) (fun hc => ?_)
    · have h := go_ifn hc h
      refine go_iinc (v := (v4 + 1)) dX12_powerOf_75 4 rfl rfl (by decide) rfl ?_
      show Go w 2 0 0 mtX12_powerOf 78 [(4, .int (v4 + 1)), (0, .ref 401), (1, .int a0), (2, .int v2), (3, .int v3)] [] (go_mk tx μ) (go_Z w Q)
      refine go_goto 12 dX12_powerOf_78 (by decide) ?_
      cases h
      have hK : Go w 2 0 0 mtX12_powerOf 12 [(0, .ref 401), (1, .int a0), (2, .int v2), (3, .int v3), (4, .int (v4 + 1))] [] (go_mk tx μ) (go_Z w Q) := hK
      exact go_pick [1, 2, 3, 4, 0] rfl hK
    · have h := go_ifp hc h
      refine go_aload_n dX12_powerOf_29 0 rfl ?_
      refine go_iload dX12_powerOf_30 4 rfl ?_
      obtain ⟨q1, hq1, h⟩ := go_bind h
      refine pp_callV (as := [.int v4]) (st := []) (rv := (some (.int q1))) (μ1 := μ) (st1 := [.int q1]) dX12_powerOf_32 ll_X12_451 sh_401 (by decide) rfl (ctX12_isMuch  hq1) rfl (Nat.le_of_ble_eq_true rfl) (Nat.le_of_ble_eq_true rfl) (go_Z_up w _) rfl rfl ?_
      refine go_if_ne 75 dX12_powerOf_35 (by decide) (fun hc => ?_) (fun hc => ?_)
      · have h := go_ifn hc h
        refine go_iinc (v := (v4 + 1)) dX12_powerOf_75 4 rfl rfl (by decide) rfl ?_
        show Go w 2 0 0 mtX12_powerOf 78 [(4, .int (v4 + 1)), (0, .ref 401), (1, .int a0), (2, .int v2), (3, .int v3)] [] (go_mk tx μ) (go_Z w Q)
        refine go_goto 12 dX12_powerOf_78 (by decide) ?_
        cases h
        have hK : Go w 2 0 0 mtX12_powerOf 12 [(0, .ref 401), (1, .int a0), (2, .int v2), (3, .int v3), (4, .int (v4 + 1))] [] (go_mk tx μ) (go_Z w Q) := hK
        exact go_pick [1, 2, 3, 4, 0] rfl hK
      · have h := go_ifp hc h
        refine go_aload_n dX12_powerOf_38 0 rfl ?_
        refine go_iload dX12_powerOf_39 4 rfl ?_
        refine go_iconst (v := 1) dX12_powerOf_41 (by decide) ?_
        refine go_iload_n dX12_powerOf_42 1 rfl ?_
        refine go_ishl dX12_powerOf_43 ?_
        refine go_ior dX12_powerOf_44 ?_
        obtain ⟨q2, hq2, h⟩ := go_bind h
        refine pp_callV (as := [.int (v4 ||| ((1 : Int32) <<< (a0 &&& 31)))]) (st := []) (rv := (some (.int q2))) (μ1 := μ) (st1 := [.int q2]) dX12_powerOf_45 ll_X12_451 sh_401 (by decide) rfl (ctX12_isMuch  hq2) rfl (Nat.le_of_ble_eq_true rfl) (Nat.le_of_ble_eq_true rfl) (go_Z_up w _) rfl rfl ?_
        refine go_if_eq 75 dX12_powerOf_48 (by decide) (fun hc => ?_) (fun hc => ?_)
        · have h := go_ifp hc h
          refine go_iinc (v := (v4 + 1)) dX12_powerOf_75 4 rfl rfl (by decide) rfl ?_
          show Go w 2 0 0 mtX12_powerOf 78 [(4, .int (v4 + 1)), (0, .ref 401), (1, .int a0), (2, .int v2), (3, .int v3)] [] (go_mk tx μ) (go_Z w Q)
          refine go_goto 12 dX12_powerOf_78 (by decide) ?_
          cases h
          have hK : Go w 2 0 0 mtX12_powerOf 12 [(0, .ref 401), (1, .int a0), (2, .int v2), (3, .int v3), (4, .int (v4 + 1))] [] (go_mk tx μ) (go_Z w Q) := hK
          exact go_pick [1, 2, 3, 4, 0] rfl hK
        · have h := go_ifn hc h
          refine go_iload_n dX12_powerOf_51 3 rfl ?_
          refine go_iload dX12_powerOf_52 4 rfl ?_
          obtain ⟨q3, hq3, h⟩ := go_bind h
          refine pp_callS (as := [.int v4]) (st := [.int v3]) (rv := (some (.int q3))) (μ1 := μ) (st1 := [.int q3, .int v3]) dX12_powerOf_54 ll_X12_397 (ctX12_bits  hq3) rfl (Nat.le_of_ble_eq_true rfl) (Nat.le_of_ble_eq_true rfl) (go_Z_up w _) rfl rfl ?_
          obtain ⟨q4, hq4, h⟩ := go_bind h
          refine pp_callS (as := [.int q3]) (st := [.int v3]) (rv := (some (.int q4))) (μ1 := μ) (st1 := [.int q4, .int v3]) dX12_powerOf_57 ll_X12_454 (ctX12_orders  hq4) rfl (Nat.le_of_ble_eq_true rfl) (Nat.le_of_ble_eq_true rfl) (go_Z_up w _) rfl rfl ?_
          refine go_iload_n dX12_powerOf_60 2 rfl ?_
          refine go_iconst (v := 1) dX12_powerOf_61 (by decide) ?_
          refine go_isub dX12_powerOf_62 ?_
          refine go_iload dX12_powerOf_63 4 rfl ?_
          obtain ⟨q5, hq5, h⟩ := go_bind h
          refine pp_callS (as := [.int v4]) (st := [.int (v2 - 1), .int q4, .int v3]) (rv := (some (.int q5))) (μ1 := μ) (st1 := [.int q5, .int (v2 - 1), .int q4, .int v3]) dX12_powerOf_65 ll_X12_397 (ctX12_bits  hq5) rfl (Nat.le_of_ble_eq_true rfl) (Nat.le_of_ble_eq_true rfl) (go_Z_up w _) rfl rfl ?_
          refine go_isub dX12_powerOf_68 ?_
          obtain ⟨q6, hq6, h⟩ := go_bind h
          refine pp_callS (as := [.int ((v2 - 1) - q5)]) (st := [.int q4, .int v3]) (rv := (some (.int q6))) (μ1 := μ) (st1 := [.int q6, .int q4, .int v3]) dX12_powerOf_69 ll_X12_454 (ctX12_orders  hq6) rfl (Nat.le_of_ble_eq_true rfl) (Nat.le_of_ble_eq_true rfl) (go_Z_up w _) rfl rfl ?_
          refine go_imul dX12_powerOf_72 ?_
          refine go_iadd dX12_powerOf_73 ?_
          obtain ⟨x7, hx7, h⟩ := go_let_e h
          refine go_top hx7 ?_
          refine go_istore_n dX12_powerOf_74 (by decide) rfl ?_
          show Go w 2 0 0 mtX12_powerOf 75 [(3, .int x7), (0, .ref 401), (1, .int a0), (2, .int v2), (4, .int v4)] [] (go_mk tx μ) (go_Z w Q)
          refine go_iinc (v := (v4 + 1)) dX12_powerOf_75 4 rfl rfl (by decide) rfl ?_
          show Go w 2 0 0 mtX12_powerOf 78 [(4, .int (v4 + 1)), (3, .int x7), (0, .ref 401), (1, .int a0), (2, .int v2)] [] (go_mk tx μ) (go_Z w Q)
          refine go_goto 12 dX12_powerOf_78 (by decide) ?_
          cases h
          have hK : Go w 2 0 0 mtX12_powerOf 12 [(0, .ref 401), (1, .int a0), (2, .int v2), (3, .int x7), (4, .int (v4 + 1))] [] (go_mk tx μ) (go_Z w Q) := hK
          exact go_pick [2, 3, 4, 1, 0] rfl hK
set_option maxRecDepth 20000 in
set_option maxHeartbeats 4000000 in
theorem cmX12_powerOf (w : go_Wd) (tx : Nat) (Q : Option Value → go_M → Prop) (μ : PM) (a0 : Int32) (out : Int32) (h : fX12_powerOf μ a0 = some out) (hK : Q (some (.int out)) (go_mk tx μ)) : Go w 2 0 0 mtX12_powerOf 0 [(0, .ref 401), (1, .int a0)] [] (go_mk tx μ) (go_Z w Q) := by
  unfold fX12_powerOf at h
  refine go_aload_n dX12_powerOf_0 0 rfl ?_
  refine pp_getR dX12_powerOf_1 ff_X12_7 (Or.inr ⟨_, rfl⟩) sh_401 rf_401_0 ?_
  refine go_iconst (v := 1) dX12_powerOf_4 (by decide) ?_
  refine pp_ildc (q := 1) dX12_powerOf_5 sh_402 (by decide) ?_
  refine go_istore_n dX12_powerOf_6 (by decide) rfl ?_
  show Go w 2 0 0 mtX12_powerOf 7 [(2, .int (μ.1 402 1)), (0, .ref 401), (1, .int a0)] [] (go_mk tx μ) (go_Z w Q)
  refine go_iconst (v := 0) dX12_powerOf_7 (by decide) ?_
  refine go_istore_n dX12_powerOf_8 (by decide) rfl ?_
  show Go w 2 0 0 mtX12_powerOf 9 [(3, .int 0), (2, .int (μ.1 402 1)), (0, .ref 401), (1, .int a0)] [] (go_mk tx μ) (go_Z w Q)
  refine go_iconst (v := 0) dX12_powerOf_9 (by decide) ?_
  refine go_istore dX12_powerOf_10 (by decide) rfl ?_
  show Go w 2 0 0 mtX12_powerOf 12 [(4, .int 0), (3, .int 0), (2, .int (μ.1 402 1)), (0, .ref 401), (1, .int a0)] [] (go_mk tx μ) (go_Z w Q)
  obtain ⟨ρ8, hρ8, h⟩ := go_bind h
  refine go_pick [3, 4, 2, 1, 0] rfl ?_
  refine go_lp (G := ggX12_powerOf_12 w tx Q μ a0 ((μ.1 402 1))) (E := eeX12_powerOf_12 w tx Q μ a0 ((μ.1 402 1))) (fun s out h hK => lqX12_powerOf_12 w tx Q μ a0 ((μ.1 402 1))  s.1 s.2 out h hK) go_fuel (0, 0) ρ8 hρ8 ?_
  cases h
  exact hK
theorem ctX12_powerOf {w : go_Wd} {tx : Nat} {μ : PM} {a0 : Int32} {r : Int32}  (h : fX12_powerOf μ a0 = some r) : Ct w 2 0 0 mtX12_powerOf [.ref 401, .int a0] (go_mk tx μ) (fun r' M' => r' = some (.int r) ∧ M' = go_mk tx μ) :=
  go_entry rfl (by decide) (Nat.le_of_ble_eq_true rfl) (cmX12_powerOf w tx _ μ a0 _ h ⟨rfl, rfl⟩)
def jjX12_power_33 (μ : PM) (a0 : Int32) (a1 : Int32) (v3 : Int32) (s0 : Int32) : Option (Int32) :=
  (fX12_powerOf μ a0).bind fun q3 => (fX12_divisor q3.toInt64 v3.toInt64).bind fun q4 => go_nz q4.toInt32 <| some ((s0 / q4.toInt32))
def fX12_power (μ : PM) (a0 : Int32) (a1 : Int32) : Option (Int32) :=
  (if (fX12_isFamily μ a0) = 0 then some ((-1)) else (fX12_orders (μ.1 402 1)).bind fun q1 => (if a1 = 0 then (fX12_powerOf μ a0).bind fun q2 => jjX12_power_33 μ a0 a1 q1 q2 else jjX12_power_33 μ a0 a1 q1 q1))
set_option maxRecDepth 20000 in
set_option maxHeartbeats 4000000 in
theorem jqX12_power_33 (w : go_Wd) (tx : Nat) (Q : Option Value → go_M → Prop) (μ : PM) (a0 : Int32) (a1 : Int32) (v3 : Int32)  (s0 : Int32)  (out : Int32) (h : jjX12_power_33 μ a0 a1 v3 s0 = some out) (hK : Q (some (.int out)) (go_mk tx μ)) : Go w 3 0 0 mtX12_power 33 [(0, .ref 401), (1, .int a0), (3, .int v3)] [.int s0] (go_mk tx μ) (go_Z w Q) := by
  unfold jjX12_power_33 at h
  refine go_aload_n dX12_power_33 0 rfl ?_
  refine go_iload_n dX12_power_34 1 rfl ?_
  obtain ⟨q3, hq3, h⟩ := go_bind h
  refine pp_callV (as := [.int a0]) (st := [.int s0]) (rv := (some (.int q3))) (μ1 := μ) (st1 := [.int q3, .int s0]) dX12_power_35 ll_X12_457 sh_401 (by decide) rfl (ctX12_powerOf  hq3) rfl (Nat.le_of_ble_eq_true rfl) (Nat.le_of_ble_eq_true rfl) (go_Z_up w _) rfl rfl ?_
  refine go_i2l dX12_power_38 ?_
  refine go_iload_n dX12_power_39 2 rfl ?_
  refine go_i2l dX12_power_40 ?_
  obtain ⟨q4, hq4, h⟩ := go_bind h
  refine pp_callS (as := [.long q3.toInt64, .long v3.toInt64]) (st := [.int s0]) (rv := (some (.long q4))) (μ1 := μ) (st1 := [.long q4, .int s0]) dX12_power_41 ll_X12_436 (ctX12_divisor  hq4) rfl (Nat.le_of_ble_eq_true rfl) (Nat.le_of_ble_eq_true rfl) (go_Z_up w _) rfl rfl ?_
  refine go_l2i dX12_power_44 ?_
  obtain ⟨hz5, h⟩ := go_nz_e h
  refine go_idiv dX12_power_45 hz5 ?_
  cases h
  exact go_iret dX12_power_46 rfl hK
set_option maxRecDepth 20000 in
set_option maxHeartbeats 4000000 in
theorem cmX12_power (w : go_Wd) (tx : Nat) (Q : Option Value → go_M → Prop) (μ : PM) (a0 : Int32) (a1 : Int32) (out : Int32) (h : fX12_power μ a0 a1 = some out) (hK : Q (some (.int out)) (go_mk tx μ)) : Go w 3 0 0 mtX12_power 0 [(0, .ref 401), (1, .int a0), (2, .int a1)] [] (go_mk tx μ) (go_Z w Q) := by
  unfold fX12_power at h
  refine go_aload_n dX12_power_0 0 rfl ?_
  refine go_iload_n dX12_power_1 1 rfl ?_
  refine pp_callV (as := [.int a0]) (st := []) (rv := (some (.int (fX12_isFamily μ a0)))) (μ1 := μ) (st1 := [.int (fX12_isFamily μ a0)]) dX12_power_2 ll_X12_351 sh_401 (by decide) rfl (ctX12_isFamily  rfl) rfl (Nat.le_of_ble_eq_true rfl) (Nat.le_of_ble_eq_true rfl) (go_Z_up w _) rfl rfl ?_
  refine go_if_ne 10 dX12_power_5 (by decide) (fun hc => ?_) (fun hc => ?_)
  · have h := go_ifn hc h
    refine go_aload_n dX12_power_10 0 rfl ?_
    refine pp_getR dX12_power_11 ff_X12_7 (Or.inr ⟨_, rfl⟩) sh_401 rf_401_0 ?_
    refine go_iconst (v := 1) dX12_power_14 (by decide) ?_
    refine pp_ildc (q := 1) dX12_power_15 sh_402 (by decide) ?_
    obtain ⟨q1, hq1, h⟩ := go_bind h
    refine pp_callS (as := [.int (μ.1 402 1)]) (st := []) (rv := (some (.int q1))) (μ1 := μ) (st1 := [.int q1]) dX12_power_16 ll_X12_454 (ctX12_orders  hq1) rfl (Nat.le_of_ble_eq_true rfl) (Nat.le_of_ble_eq_true rfl) (go_Z_up w _) rfl rfl ?_
    refine go_istore_n dX12_power_19 (by decide) rfl ?_
    show Go w 3 0 0 mtX12_power 20 [(3, .int q1), (0, .ref 401), (1, .int a0), (2, .int a1)] [] (go_mk tx μ) (go_Z w Q)
    refine go_iload_n dX12_power_20 3 rfl ?_
    refine go_if_eq 28 dX12_power_21 (by decide) (fun hc => ?_) (fun hc => ?_)
    · have h := go_ifp hc h
      refine go_aload_n dX12_power_28 1 rfl ?_
      refine go_iload_n dX12_power_29 2 rfl ?_
      obtain ⟨q2, hq2, h⟩ := go_bind h
      refine pp_callV (as := [.int a0]) (st := []) (rv := (some (.int q2))) (μ1 := μ) (st1 := [.int q2]) dX12_power_30 ll_X12_457 sh_401 (by decide) rfl (ctX12_powerOf  hq2) rfl (Nat.le_of_ble_eq_true rfl) (Nat.le_of_ble_eq_true rfl) (go_Z_up w _) rfl rfl ?_
      refine go_pick [1, 2, 0] rfl ?_
      exact jqX12_power_33 w tx Q μ a0 a1 q1  q2  _ h hK
    · have h := go_ifn hc h
      refine go_iload_n dX12_power_24 0 rfl ?_
      refine go_goto 33 dX12_power_25 (by decide) ?_
      refine go_pick [1, 2, 0] rfl ?_
      exact jqX12_power_33 w tx Q μ a0 a1 q1  q1  _ h hK
  · have h := go_ifp hc h
    refine go_iconst (v := (-1)) dX12_power_8 (by decide) ?_
    cases h
    exact go_iret dX12_power_9 rfl hK
theorem ctX12_power {w : go_Wd} {tx : Nat} {μ : PM} {a0 : Int32} {a1 : Int32} {r : Int32}  (h : fX12_power μ a0 a1 = some r) : Ct w 3 0 0 mtX12_power [.ref 401, .int a0, .int a1] (go_mk tx μ) (fun r' M' => r' = some (.int r) ∧ M' = go_mk tx μ) :=
  go_entry rfl (by decide) (Nat.le_of_ble_eq_true rfl) (cmX12_power w tx _ μ a0 a1 _ h ⟨rfl, rfl⟩)
def jjX12_dummies_30_4 (μ : PM)  (v2 : Int32) (s0 : Int32) (s1 : Int32) : Option ((Int32 × Int32) ⊕ (Int32)) :=
  some (.inl ((s0 ||| s1), (v2 + 1)))
def lbX12_dummies_4 (μ : PM)   (v1 : Int32) (v2 : Int32) : Option ((Int32 × Int32) ⊕ (Int32)) :=
  (if (μ.1 402 1) ≤ v2 then some (.inr (v1)) else (fX12_powerOf μ v2).bind fun q1 => (if q1 = 0 then jjX12_dummies_30_4 μ v2 v1 (((1 : Int32) <<< (v2 &&& 31))) else jjX12_dummies_30_4 μ v2 v1 0))
def fX12_dummies (μ : PM)  : Option (Int32) :=
  ((lp (fun s => lbX12_dummies_4 μ s.1 s.2) go_fuel (0, 0)).bind fun ρ2 => some ρ2)
def ggX12_dummies_4 (w : go_Wd) (tx : Nat) (Q : Option Value → go_M → Prop) (μ : PM)   (s : Int32 × Int32) : Prop := Go w 3 0 0 mtX12_dummies 4 [(0, .ref 401), (1, .int s.1), (2, .int s.2)] [] (go_mk tx μ) (go_Z w Q)
def eeX12_dummies_4 (w : go_Wd) (tx : Nat) (Q : Option Value → go_M → Prop) (μ : PM)   (y : Int32) : Prop := Q (some (.int y)) (go_mk tx μ)
set_option maxRecDepth 20000 in
set_option maxHeartbeats 4000000 in
theorem jqX12_dummies_30_4 (w : go_Wd) (tx : Nat) (Q : Option Value → go_M → Prop) (μ : PM)  (v2 : Int32)  (s0 : Int32) (s1 : Int32)  (out : (Int32 × Int32) ⊕ (Int32)) (h : jjX12_dummies_30_4 μ v2 s0 s1 = some out) (hK : go_out (ggX12_dummies_4 w tx Q μ  ) (eeX12_dummies_4 w tx Q μ  ) out) : Go w 3 0 0 mtX12_dummies 30 [(0, .ref 401), (2, .int v2)] [.int s1, .int s0] (go_mk tx μ) (go_Z w Q) := by
  unfold jjX12_dummies_30_4 at h
  refine go_ior dX12_dummies_30 ?_
  refine go_istore_n dX12_dummies_31 (by decide) rfl ?_
  show Go w 3 0 0 mtX12_dummies 32 [(1, .int (s0 ||| s1)), (0, .ref 401), (2, .int v2)] [] (go_mk tx μ) (go_Z w Q)
  refine go_iinc (v := (v2 + 1)) dX12_dummies_32 2 rfl rfl (by decide) rfl ?_
  show Go w 3 0 0 mtX12_dummies 35 [(2, .int (v2 + 1)), (1, .int (s0 ||| s1)), (0, .ref 401)] [] (go_mk tx μ) (go_Z w Q)
  refine go_goto 4 dX12_dummies_35 (by decide) ?_
  cases h
  have hK : Go w 3 0 0 mtX12_dummies 4 [(0, .ref 401), (1, .int (s0 ||| s1)), (2, .int (v2 + 1))] [] (go_mk tx μ) (go_Z w Q) := hK
  exact go_pick [2, 1, 0] rfl hK
set_option maxRecDepth 20000 in
set_option maxHeartbeats 4000000 in
theorem lqX12_dummies_4 (w : go_Wd) (tx : Nat) (Q : Option Value → go_M → Prop) (μ : PM)    (v1 : Int32) (v2 : Int32) (out : (Int32 × Int32) ⊕ (Int32)) (h : lbX12_dummies_4 μ  v1 v2 = some out) (hK : go_out (ggX12_dummies_4 w tx Q μ  ) (eeX12_dummies_4 w tx Q μ  ) out) : ggX12_dummies_4 w tx Q μ   (v1, v2) := by
  unfold lbX12_dummies_4 at h
  show Go w 3 0 0 mtX12_dummies 4 [(0, .ref 401), (1, .int v1), (2, .int v2)] [] (go_mk tx μ) (go_Z w Q)
  refine go_iload_n dX12_dummies_4 2 rfl ?_
  refine go_aload_n dX12_dummies_5 0 rfl ?_
  refine pp_getR dX12_dummies_6 ff_X12_7 (Or.inr ⟨_, rfl⟩) sh_401 rf_401_0 ?_
  refine go_iconst (v := 1) dX12_dummies_9 (by decide) ?_
  refine pp_ildc (q := 1) dX12_dummies_10 sh_402 (by decide) ?_
  refine go_icmp_ge 38 dX12_dummies_11 (by decide) (fun hc => ?_) (fun hc => ?_)
  · have h := go_ifp hc h
    refine go_iload_n dX12_dummies_38 1 rfl ?_
    cases h
    exact go_iret dX12_dummies_39 rfl hK
  · have h := go_ifn hc h
    refine go_iload_n dX12_dummies_14 1 rfl ?_
    refine go_aload_n dX12_dummies_15 0 rfl ?_
    refine go_iload_n dX12_dummies_16 2 rfl ?_
    obtain ⟨q1, hq1, h⟩ := go_bind h
    refine pp_callV (as := [.int v2]) (st := [.int v1]) (rv := (some (.int q1))) (μ1 := μ) (st1 := [.int q1, .int v1]) dX12_dummies_17 ll_X12_457 sh_401 (by decide) rfl (ctX12_powerOf  hq1) rfl (Nat.le_of_ble_eq_true rfl) (Nat.le_of_ble_eq_true rfl) (go_Z_up w _) rfl rfl ?_
    refine go_if_ne 29 dX12_dummies_20 (by decide) (fun hc => ?_) (fun hc => ?_)
    · have h := go_ifn hc h
      refine go_iconst (v := 0) dX12_dummies_29 (by decide) ?_
      refine go_pick [0, 2] rfl ?_
      exact jqX12_dummies_30_4 w tx Q μ  v2  v1 0  _ h hK
    · have h := go_ifp hc h
      refine go_iconst (v := 1) dX12_dummies_23 (by decide) ?_
      refine go_iload_n dX12_dummies_24 2 rfl ?_
      refine go_ishl dX12_dummies_25 ?_
      refine go_goto 30 dX12_dummies_26 (by decide) ?_
      refine go_pick [0, 2] rfl ?_
      exact jqX12_dummies_30_4 w tx Q μ  v2  v1 (((1 : Int32) <<< (v2 &&& 31)))  _ h hK
set_option maxRecDepth 20000 in
set_option maxHeartbeats 4000000 in
theorem cmX12_dummies (w : go_Wd) (tx : Nat) (Q : Option Value → go_M → Prop) (μ : PM)  (out : Int32) (h : fX12_dummies μ = some out) (hK : Q (some (.int out)) (go_mk tx μ)) : Go w 3 0 0 mtX12_dummies 0 [(0, .ref 401)] [] (go_mk tx μ) (go_Z w Q) := by
  unfold fX12_dummies at h
  refine go_iconst (v := 0) dX12_dummies_0 (by decide) ?_
  refine go_istore_n dX12_dummies_1 (by decide) rfl ?_
  show Go w 3 0 0 mtX12_dummies 2 [(1, .int 0), (0, .ref 401)] [] (go_mk tx μ) (go_Z w Q)
  refine go_iconst (v := 0) dX12_dummies_2 (by decide) ?_
  refine go_istore_n dX12_dummies_3 (by decide) rfl ?_
  show Go w 3 0 0 mtX12_dummies 4 [(2, .int 0), (1, .int 0), (0, .ref 401)] [] (go_mk tx μ) (go_Z w Q)
  obtain ⟨ρ2, hρ2, h⟩ := go_bind h
  refine go_pick [2, 1, 0] rfl ?_
  refine go_lp (G := ggX12_dummies_4 w tx Q μ  ) (E := eeX12_dummies_4 w tx Q μ  ) (fun s out h hK => lqX12_dummies_4 w tx Q μ    s.1 s.2 out h hK) go_fuel (0, 0) ρ2 hρ2 ?_
  cases h
  exact hK
theorem ctX12_dummies {w : go_Wd} {tx : Nat} {μ : PM}  {r : Int32}  (h : fX12_dummies μ = some r) : Ct w 3 0 0 mtX12_dummies [.ref 401] (go_mk tx μ) (fun r' M' => r' = some (.int r) ∧ M' = go_mk tx μ) :=
  go_entry rfl (by decide) (Nat.le_of_ble_eq_true rfl) (cmX12_dummies w tx _ μ  _ h ⟨rfl, rfl⟩)
def lbX12_veto_15 (μ : PM)  (v1 : Int32) (v2 : Int32) (v3 : Int32) : Option ((Int32 × Int32) ⊕ (Int32)) :=
  (if v1 < v3 then some (.inr (v2)) else (fX12_isMuch μ v3).bind fun q2 => (if q2 = 0 then some (.inl (v2, (v3 + 1))) else some (.inl ((v2 &&& v3), (v3 + 1)))))
def fX12_veto (μ : PM)  : Option (Int32) :=
  go_let ((((1 : Int32) <<< ((μ.1 402 1) &&& 31)) - 1)) fun x1 => ((lp (fun s => lbX12_veto_15 μ x1 s.1 s.2) go_fuel (x1, 0)).bind fun ρ3 => some ρ3)
def ggX12_veto_15 (w : go_Wd) (tx : Nat) (Q : Option Value → go_M → Prop) (μ : PM)  (v1 : Int32) (s : Int32 × Int32) : Prop := Go w 2 0 0 mtX12_veto 15 [(0, .ref 401), (1, .int v1), (2, .int s.1), (3, .int s.2)] [] (go_mk tx μ) (go_Z w Q)
def eeX12_veto_15 (w : go_Wd) (tx : Nat) (Q : Option Value → go_M → Prop) (μ : PM)  (v1 : Int32) (y : Int32) : Prop := Q (some (.int y)) (go_mk tx μ)
set_option maxRecDepth 20000 in
set_option maxHeartbeats 4000000 in
theorem lqX12_veto_15 (w : go_Wd) (tx : Nat) (Q : Option Value → go_M → Prop) (μ : PM)  (v1 : Int32)  (v2 : Int32) (v3 : Int32) (out : (Int32 × Int32) ⊕ (Int32)) (h : lbX12_veto_15 μ v1 v2 v3 = some out) (hK : go_out (ggX12_veto_15 w tx Q μ  v1) (eeX12_veto_15 w tx Q μ  v1) out) : ggX12_veto_15 w tx Q μ  v1 (v2, v3) := by
  unfold lbX12_veto_15 at h
  show Go w 2 0 0 mtX12_veto 15 [(0, .ref 401), (1, .int v1), (2, .int v2), (3, .int v3)] [] (go_mk tx μ) (go_Z w Q)
  refine go_iload_n dX12_veto_15 3 rfl ?_
  refine go_iload_n dX12_veto_16 1 rfl ?_
  refine go_icmp_gt 38 dX12_veto_17 (by decide) (fun hc => ?_) (fun hc => ?_)
  · have h := go_ifp hc h
    refine go_iload_n dX12_veto_38 2 rfl ?_
    cases h
    exact go_iret dX12_veto_39 rfl hK
  · have h := go_ifn hc h
    refine go_aload_n dX12_veto_20 0 rfl ?_
    refine go_iload_n dX12_veto_21 3 rfl ?_
    obtain ⟨q2, hq2, h⟩ := go_bind h
    refine pp_callV (as := [.int v3]) (st := []) (rv := (some (.int q2))) (μ1 := μ) (st1 := [.int q2]) dX12_veto_22 ll_X12_451 sh_401 (by decide) rfl (ctX12_isMuch  hq2) rfl (Nat.le_of_ble_eq_true rfl) (Nat.le_of_ble_eq_true rfl) (go_Z_up w _) rfl rfl ?_
    refine go_if_eq 32 dX12_veto_25 (by decide) (fun hc => ?_) (fun hc => ?_)
    · have h := go_ifp hc h
      refine go_iinc (v := (v3 + 1)) dX12_veto_32 3 rfl rfl (by decide) rfl ?_
      show Go w 2 0 0 mtX12_veto 35 [(3, .int (v3 + 1)), (0, .ref 401), (1, .int v1), (2, .int v2)] [] (go_mk tx μ) (go_Z w Q)
      refine go_goto 15 dX12_veto_35 (by decide) ?_
      cases h
      have hK : Go w 2 0 0 mtX12_veto 15 [(0, .ref 401), (1, .int v1), (2, .int v2), (3, .int (v3 + 1))] [] (go_mk tx μ) (go_Z w Q) := hK
      exact go_pick [1, 2, 3, 0] rfl hK
    · have h := go_ifn hc h
      refine go_iload_n dX12_veto_28 2 rfl ?_
      refine go_iload_n dX12_veto_29 3 rfl ?_
      refine go_iand dX12_veto_30 ?_
      refine go_istore_n dX12_veto_31 (by decide) rfl ?_
      show Go w 2 0 0 mtX12_veto 32 [(2, .int (v2 &&& v3)), (0, .ref 401), (1, .int v1), (3, .int v3)] [] (go_mk tx μ) (go_Z w Q)
      refine go_iinc (v := (v3 + 1)) dX12_veto_32 3 rfl rfl (by decide) rfl ?_
      show Go w 2 0 0 mtX12_veto 35 [(3, .int (v3 + 1)), (2, .int (v2 &&& v3)), (0, .ref 401), (1, .int v1)] [] (go_mk tx μ) (go_Z w Q)
      refine go_goto 15 dX12_veto_35 (by decide) ?_
      cases h
      have hK : Go w 2 0 0 mtX12_veto 15 [(0, .ref 401), (1, .int v1), (2, .int (v2 &&& v3)), (3, .int (v3 + 1))] [] (go_mk tx μ) (go_Z w Q) := hK
      exact go_pick [2, 3, 1, 0] rfl hK
set_option maxRecDepth 20000 in
set_option maxHeartbeats 4000000 in
theorem cmX12_veto (w : go_Wd) (tx : Nat) (Q : Option Value → go_M → Prop) (μ : PM)  (out : Int32) (h : fX12_veto μ = some out) (hK : Q (some (.int out)) (go_mk tx μ)) : Go w 2 0 0 mtX12_veto 0 [(0, .ref 401)] [] (go_mk tx μ) (go_Z w Q) := by
  unfold fX12_veto at h
  refine go_iconst (v := 1) dX12_veto_0 (by decide) ?_
  refine go_aload_n dX12_veto_1 0 rfl ?_
  refine pp_getR dX12_veto_2 ff_X12_7 (Or.inr ⟨_, rfl⟩) sh_401 rf_401_0 ?_
  refine go_iconst (v := 1) dX12_veto_5 (by decide) ?_
  refine pp_ildc (q := 1) dX12_veto_6 sh_402 (by decide) ?_
  refine go_ishl dX12_veto_7 ?_
  refine go_iconst (v := 1) dX12_veto_8 (by decide) ?_
  refine go_isub dX12_veto_9 ?_
  obtain ⟨x1, hx1, h⟩ := go_let_e h
  refine go_top hx1 ?_
  refine go_istore_n dX12_veto_10 (by decide) rfl ?_
  show Go w 2 0 0 mtX12_veto 11 [(1, .int x1), (0, .ref 401)] [] (go_mk tx μ) (go_Z w Q)
  refine go_iload_n dX12_veto_11 0 rfl ?_
  refine go_istore_n dX12_veto_12 (by decide) rfl ?_
  show Go w 2 0 0 mtX12_veto 13 [(2, .int x1), (1, .int x1), (0, .ref 401)] [] (go_mk tx μ) (go_Z w Q)
  refine go_iconst (v := 0) dX12_veto_13 (by decide) ?_
  refine go_istore_n dX12_veto_14 (by decide) rfl ?_
  show Go w 2 0 0 mtX12_veto 15 [(3, .int 0), (2, .int x1), (1, .int x1), (0, .ref 401)] [] (go_mk tx μ) (go_Z w Q)
  obtain ⟨ρ3, hρ3, h⟩ := go_bind h
  refine go_pick [3, 2, 1, 0] rfl ?_
  refine go_lp (G := ggX12_veto_15 w tx Q μ  x1) (E := eeX12_veto_15 w tx Q μ  x1) (fun s out h hK => lqX12_veto_15 w tx Q μ  x1  s.1 s.2 out h hK) go_fuel (x1, 0) ρ3 hρ3 ?_
  cases h
  exact hK
theorem ctX12_veto {w : go_Wd} {tx : Nat} {μ : PM}  {r : Int32}  (h : fX12_veto μ = some r) : Ct w 2 0 0 mtX12_veto [.ref 401] (go_mk tx μ) (fun r' M' => r' = some (.int r) ∧ M' = go_mk tx μ) :=
  go_entry rfl (by decide) (Nat.le_of_ble_eq_true rfl) (cmX12_veto w tx _ μ  _ h ⟨rfl, rfl⟩)
def jjX12_coalitions_30_4 (μ : PM)  (v2 : Int32) (s0 : Int32) (s1 : Int32) : Option ((Int32 × Int32) ⊕ (Int32)) :=
  some (.inl ((s0 + s1), (v2 + 1)))
def lbX12_coalitions_4 (μ : PM)   (v1 : Int32) (v2 : Int32) : Option ((Int32 × Int32) ⊕ (Int32)) :=
  (if ((1 : Int32) <<< ((μ.1 402 1) &&& 31)) ≤ v2 then some (.inr (v1)) else (fX12_isMuch μ v2).bind fun q1 => (if q1 = 0 then jjX12_coalitions_30_4 μ v2 v1 0 else jjX12_coalitions_30_4 μ v2 v1 1))
def fX12_coalitions (μ : PM)  : Option (Int32) :=
  ((lp (fun s => lbX12_coalitions_4 μ s.1 s.2) go_fuel (0, 0)).bind fun ρ2 => some ρ2)
def ggX12_coalitions_4 (w : go_Wd) (tx : Nat) (Q : Option Value → go_M → Prop) (μ : PM)   (s : Int32 × Int32) : Prop := Go w 2 0 0 mtX12_coalitions 4 [(0, .ref 401), (1, .int s.1), (2, .int s.2)] [] (go_mk tx μ) (go_Z w Q)
def eeX12_coalitions_4 (w : go_Wd) (tx : Nat) (Q : Option Value → go_M → Prop) (μ : PM)   (y : Int32) : Prop := Q (some (.int y)) (go_mk tx μ)
set_option maxRecDepth 20000 in
set_option maxHeartbeats 4000000 in
theorem jqX12_coalitions_30_4 (w : go_Wd) (tx : Nat) (Q : Option Value → go_M → Prop) (μ : PM)  (v2 : Int32)  (s0 : Int32) (s1 : Int32) (hs1 : s1 = 0 ∨ s1 = 1) (out : (Int32 × Int32) ⊕ (Int32)) (h : jjX12_coalitions_30_4 μ v2 s0 s1 = some out) (hK : go_out (ggX12_coalitions_4 w tx Q μ  ) (eeX12_coalitions_4 w tx Q μ  ) out) : Go w 2 0 0 mtX12_coalitions 30 [(0, .ref 401), (2, .int v2)] [.int s1, .int s0] (go_mk tx μ) (go_Z w Q) := by
  unfold jjX12_coalitions_30_4 at h
  refine go_iadd dX12_coalitions_30 ?_
  refine go_istore_n dX12_coalitions_31 (by decide) rfl ?_
  show Go w 2 0 0 mtX12_coalitions 32 [(1, .int (s0 + s1)), (0, .ref 401), (2, .int v2)] [] (go_mk tx μ) (go_Z w Q)
  refine go_iinc (v := (v2 + 1)) dX12_coalitions_32 2 rfl rfl (by decide) rfl ?_
  show Go w 2 0 0 mtX12_coalitions 35 [(2, .int (v2 + 1)), (1, .int (s0 + s1)), (0, .ref 401)] [] (go_mk tx μ) (go_Z w Q)
  refine go_goto 4 dX12_coalitions_35 (by decide) ?_
  cases h
  have hK : Go w 2 0 0 mtX12_coalitions 4 [(0, .ref 401), (1, .int (s0 + s1)), (2, .int (v2 + 1))] [] (go_mk tx μ) (go_Z w Q) := hK
  exact go_pick [2, 1, 0] rfl hK
set_option maxRecDepth 20000 in
set_option maxHeartbeats 4000000 in
theorem lqX12_coalitions_4 (w : go_Wd) (tx : Nat) (Q : Option Value → go_M → Prop) (μ : PM)    (v1 : Int32) (v2 : Int32) (out : (Int32 × Int32) ⊕ (Int32)) (h : lbX12_coalitions_4 μ  v1 v2 = some out) (hK : go_out (ggX12_coalitions_4 w tx Q μ  ) (eeX12_coalitions_4 w tx Q μ  ) out) : ggX12_coalitions_4 w tx Q μ   (v1, v2) := by
  unfold lbX12_coalitions_4 at h
  show Go w 2 0 0 mtX12_coalitions 4 [(0, .ref 401), (1, .int v1), (2, .int v2)] [] (go_mk tx μ) (go_Z w Q)
  refine go_iload_n dX12_coalitions_4 2 rfl ?_
  refine go_iconst (v := 1) dX12_coalitions_5 (by decide) ?_
  refine go_aload_n dX12_coalitions_6 0 rfl ?_
  refine pp_getR dX12_coalitions_7 ff_X12_7 (Or.inr ⟨_, rfl⟩) sh_401 rf_401_0 ?_
  refine go_iconst (v := 1) dX12_coalitions_10 (by decide) ?_
  refine pp_ildc (q := 1) dX12_coalitions_11 sh_402 (by decide) ?_
  refine go_ishl dX12_coalitions_12 ?_
  refine go_icmp_ge 38 dX12_coalitions_13 (by decide) (fun hc => ?_) (fun hc => ?_)
  · have h := go_ifp hc h
    refine go_iload_n dX12_coalitions_38 1 rfl ?_
    cases h
    exact go_iret dX12_coalitions_39 rfl hK
  · have h := go_ifn hc h
    refine go_iload_n dX12_coalitions_16 1 rfl ?_
    refine go_aload_n dX12_coalitions_17 0 rfl ?_
    refine go_iload_n dX12_coalitions_18 2 rfl ?_
    obtain ⟨q1, hq1, h⟩ := go_bind h
    refine pp_callV (as := [.int v2]) (st := [.int v1]) (rv := (some (.int q1))) (μ1 := μ) (st1 := [.int q1, .int v1]) dX12_coalitions_19 ll_X12_451 sh_401 (by decide) rfl (ctX12_isMuch  hq1) rfl (Nat.le_of_ble_eq_true rfl) (Nat.le_of_ble_eq_true rfl) (go_Z_up w _) rfl rfl ?_
    refine go_if_eq 29 dX12_coalitions_22 (by decide) (fun hc => ?_) (fun hc => ?_)
    · have h := go_ifp hc h
      refine go_iconst (v := 0) dX12_coalitions_29 (by decide) ?_
      refine go_pick [0, 2] rfl ?_
      exact jqX12_coalitions_30_4 w tx Q μ  v2  v1 0 (Or.inl rfl) _ h hK
    · have h := go_ifn hc h
      refine go_iconst (v := 1) dX12_coalitions_25 (by decide) ?_
      refine go_goto 30 dX12_coalitions_26 (by decide) ?_
      refine go_pick [0, 2] rfl ?_
      exact jqX12_coalitions_30_4 w tx Q μ  v2  v1 1 (Or.inr rfl) _ h hK
set_option maxRecDepth 20000 in
set_option maxHeartbeats 4000000 in
theorem cmX12_coalitions (w : go_Wd) (tx : Nat) (Q : Option Value → go_M → Prop) (μ : PM)  (out : Int32) (h : fX12_coalitions μ = some out) (hK : Q (some (.int out)) (go_mk tx μ)) : Go w 2 0 0 mtX12_coalitions 0 [(0, .ref 401)] [] (go_mk tx μ) (go_Z w Q) := by
  unfold fX12_coalitions at h
  refine go_iconst (v := 0) dX12_coalitions_0 (by decide) ?_
  refine go_istore_n dX12_coalitions_1 (by decide) rfl ?_
  show Go w 2 0 0 mtX12_coalitions 2 [(1, .int 0), (0, .ref 401)] [] (go_mk tx μ) (go_Z w Q)
  refine go_iconst (v := 0) dX12_coalitions_2 (by decide) ?_
  refine go_istore_n dX12_coalitions_3 (by decide) rfl ?_
  show Go w 2 0 0 mtX12_coalitions 4 [(2, .int 0), (1, .int 0), (0, .ref 401)] [] (go_mk tx μ) (go_Z w Q)
  obtain ⟨ρ2, hρ2, h⟩ := go_bind h
  refine go_pick [2, 1, 0] rfl ?_
  refine go_lp (G := ggX12_coalitions_4 w tx Q μ  ) (E := eeX12_coalitions_4 w tx Q μ  ) (fun s out h hK => lqX12_coalitions_4 w tx Q μ    s.1 s.2 out h hK) go_fuel (0, 0) ρ2 hρ2 ?_
  cases h
  exact hK
theorem ctX12_coalitions {w : go_Wd} {tx : Nat} {μ : PM}  {r : Int32}  (h : fX12_coalitions μ = some r) : Ct w 2 0 0 mtX12_coalitions [.ref 401] (go_mk tx μ) (fun r' M' => r' = some (.int r) ∧ M' = go_mk tx μ) :=
  go_entry rfl (by decide) (Nat.le_of_ble_eq_true rfl) (cmX12_coalitions w tx _ μ  _ h ⟨rfl, rfl⟩)
def fX12_said (μ : PM) (a0 : Int32) (a1 : Int32) : Option (Int32 × PM) :=
  (if a0 = (-1) then go_let (pm_wi μ 402 6 0) fun μ6 => some ((0, μ6)) else (if (fX12_isName μ a0) = 0 then some (((-2), μ)) else (if (fX12_isIn a1 (-99) 99) = 0 then some (((-2), μ)) else (if (μ.1 402 6) = 8 then some (((-2), μ)) else go_chk (126 + (2 * (μ.1 402 6))) 1792 <| go_let (pm_wi μ 402 ((126 + (2 * (μ.1 402 6))) : Int32).toNatClampNeg a0) fun μ1 => go_chk ((126 + (2 * (μ1.1 402 6))) + 1) 1792 <| go_let (pm_wi μ1 402 (((126 + (2 * (μ1.1 402 6))) + 1) : Int32).toNatClampNeg a1) fun μ3 => go_let (pm_wi μ3 402 6 ((μ3.1 402 6) + 1)) fun μ5 => some (((μ5.1 402 6), μ5))))))
set_option maxRecDepth 20000 in
set_option maxHeartbeats 4000000 in
theorem cmX12_said (w : go_Wd) (tx : Nat) (Q : Option Value → go_M → Prop) (μ : PM) (a0 : Int32) (a1 : Int32) (out : Int32 × PM) (h : fX12_said μ a0 a1 = some out) (hK : Q (some (.int out.1)) (go_mk tx out.2)) : Go w 2 0 0 mtX12_said 0 [(0, .ref 401), (1, .int a0), (2, .int a1)] [] (go_mk tx μ) (go_Z w Q) := by
  unfold fX12_said at h
  refine go_iload_n dX12_said_0 1 rfl ?_
  refine go_iconst (v := (-1)) dX12_said_1 (by decide) ?_
  refine go_icmp_ne 15 dX12_said_2 (by decide) (fun hc => ?_) (fun hc => ?_)
  · have h := go_ifn hc h
    refine go_aload_n dX12_said_15 0 rfl ?_
    refine go_iload_n dX12_said_16 1 rfl ?_
    refine pp_callV (as := [.int a0]) (st := []) (rv := (some (.int (fX12_isName μ a0)))) (μ1 := μ) (st1 := [.int (fX12_isName μ a0)]) dX12_said_17 ll_X12_261 sh_401 (by decide) rfl (ctX12_isName  rfl) rfl (Nat.le_of_ble_eq_true rfl) (Nat.le_of_ble_eq_true rfl) (go_Z_up w _) rfl rfl ?_
    refine go_if_eq 46 dX12_said_20 (by decide) (fun hc => ?_) (fun hc => ?_)
    · have h := go_ifp hc h
      refine go_bipush (v := (-2)) dX12_said_46 (by decide) ?_
      cases h
      exact go_iret dX12_said_48 rfl hK
    · have h := go_ifn hc h
      refine go_iload_n dX12_said_23 2 rfl ?_
      refine go_bipush (v := (-99)) dX12_said_24 (by decide) ?_
      refine go_bipush (v := 99) dX12_said_26 (by decide) ?_
      refine pp_callS (as := [.int a1, .int (-99), .int 99]) (st := []) (rv := (some (.int (fX12_isIn a1 (-99) 99)))) (μ1 := μ) (st1 := [.int (fX12_isIn a1 (-99) 99)]) dX12_said_28 ll_X12_63 (ctX12_isIn  rfl) rfl (Nat.le_of_ble_eq_true rfl) (Nat.le_of_ble_eq_true rfl) (go_Z_up w _) rfl rfl ?_
      refine go_if_eq 46 dX12_said_31 (by decide) (fun hc => ?_) (fun hc => ?_)
      · have h := go_ifp hc h
        refine go_bipush (v := (-2)) dX12_said_46 (by decide) ?_
        cases h
        exact go_iret dX12_said_48 rfl hK
      · have h := go_ifn hc h
        refine go_aload_n dX12_said_34 0 rfl ?_
        refine pp_getR dX12_said_35 ff_X12_7 (Or.inr ⟨_, rfl⟩) sh_401 rf_401_0 ?_
        refine go_bipush (v := 6) dX12_said_38 (by decide) ?_
        refine pp_ildc (q := 6) dX12_said_40 sh_402 (by decide) ?_
        refine go_bipush (v := 8) dX12_said_41 (by decide) ?_
        refine go_icmp_ne 49 dX12_said_43 (by decide) (fun hc => ?_) (fun hc => ?_)
        · have h := go_ifn hc h
          refine go_aload_n dX12_said_49 0 rfl ?_
          refine pp_getR dX12_said_50 ff_X12_7 (Or.inr ⟨_, rfl⟩) sh_401 rf_401_0 ?_
          refine go_bipush (v := 126) dX12_said_53 (by decide) ?_
          refine go_iconst (v := 2) dX12_said_55 (by decide) ?_
          refine go_aload_n dX12_said_56 0 rfl ?_
          refine pp_getR dX12_said_57 ff_X12_7 (Or.inr ⟨_, rfl⟩) sh_401 rf_401_0 ?_
          refine go_bipush (v := 6) dX12_said_60 (by decide) ?_
          refine pp_ildc (q := 6) dX12_said_62 sh_402 (by decide) ?_
          refine go_imul dX12_said_63 ?_
          refine go_iadd dX12_said_64 ?_
          refine go_iload_n dX12_said_65 1 rfl ?_
          obtain ⟨hz2, h⟩ := go_chk_e h
          obtain ⟨μ1, hμ1, h⟩ := go_let_e h
          refine pp_ist dX12_said_66 sh_402 hz2 hμ1 ?_
          refine go_aload_n dX12_said_67 0 rfl ?_
          refine pp_getR dX12_said_68 ff_X12_7 (Or.inr ⟨_, rfl⟩) sh_401 rf_401_0 ?_
          refine go_bipush (v := 126) dX12_said_71 (by decide) ?_
          refine go_iconst (v := 2) dX12_said_73 (by decide) ?_
          refine go_aload_n dX12_said_74 0 rfl ?_
          refine pp_getR dX12_said_75 ff_X12_7 (Or.inr ⟨_, rfl⟩) sh_401 rf_401_0 ?_
          refine go_bipush (v := 6) dX12_said_78 (by decide) ?_
          refine pp_ildc (q := 6) dX12_said_80 sh_402 (by decide) ?_
          refine go_imul dX12_said_81 ?_
          refine go_iadd dX12_said_82 ?_
          refine go_iconst (v := 1) dX12_said_83 (by decide) ?_
          refine go_iadd dX12_said_84 ?_
          refine go_iload_n dX12_said_85 2 rfl ?_
          obtain ⟨hz4, h⟩ := go_chk_e h
          obtain ⟨μ3, hμ3, h⟩ := go_let_e h
          refine pp_ist dX12_said_86 sh_402 hz4 hμ3 ?_
          refine go_aload_n dX12_said_87 0 rfl ?_
          refine pp_getR dX12_said_88 ff_X12_7 (Or.inr ⟨_, rfl⟩) sh_401 rf_401_0 ?_
          refine go_bipush (v := 6) dX12_said_91 (by decide) ?_
          refine go_dup2 dX12_said_93 rfl rfl ?_
          refine pp_ildc (q := 6) dX12_said_94 sh_402 (by decide) ?_
          refine go_iconst (v := 1) dX12_said_95 (by decide) ?_
          refine go_iadd dX12_said_96 ?_
          obtain ⟨μ5, hμ5, h⟩ := go_let_e h
          refine pp_istc (q := 6) dX12_said_97 sh_402 (by decide) hμ5 ?_
          refine go_aload_n dX12_said_98 0 rfl ?_
          refine pp_getR dX12_said_99 ff_X12_7 (Or.inr ⟨_, rfl⟩) sh_401 rf_401_0 ?_
          refine go_bipush (v := 6) dX12_said_102 (by decide) ?_
          refine pp_ildc (q := 6) dX12_said_104 sh_402 (by decide) ?_
          cases h
          exact go_iret dX12_said_105 rfl hK
        · have h := go_ifp hc h
          refine go_bipush (v := (-2)) dX12_said_46 (by decide) ?_
          cases h
          exact go_iret dX12_said_48 rfl hK
  · have h := go_ifp hc h
    refine go_aload_n dX12_said_5 0 rfl ?_
    refine pp_getR dX12_said_6 ff_X12_7 (Or.inr ⟨_, rfl⟩) sh_401 rf_401_0 ?_
    refine go_bipush (v := 6) dX12_said_9 (by decide) ?_
    refine go_iconst (v := 0) dX12_said_11 (by decide) ?_
    obtain ⟨μ6, hμ6, h⟩ := go_let_e h
    refine pp_istc (q := 6) dX12_said_12 sh_402 (by decide) hμ6 ?_
    refine go_iconst (v := 0) dX12_said_13 (by decide) ?_
    cases h
    exact go_iret dX12_said_14 rfl hK
theorem ctX12_said {w : go_Wd} {tx : Nat} {μ : PM} {a0 : Int32} {a1 : Int32} {r : Int32} {μ1 : PM}  (h : fX12_said μ a0 a1 = some (r, μ1)) : Ct w 2 0 0 mtX12_said [.ref 401, .int a0, .int a1] (go_mk tx μ) (fun r' M' => r' = some (.int r) ∧ M' = go_mk tx μ1) :=
  go_entry rfl (by decide) (Nat.le_of_ble_eq_true rfl) (cmX12_said w tx _ μ a0 a1 _ h ⟨rfl, rfl⟩)