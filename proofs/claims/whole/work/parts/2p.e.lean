def jjX12_richest_39_4 (μ : PM)  (v1 : Int32) (v2 : Int32) (s0 : Int32) (s1 : Int32) : Option ((Int32 × Int32) ⊕ (Int32)) :=
  (if s0 ≤ s1 then some (.inl (v1, (v2 + 1))) else some (.inl (v2, (v2 + 1))))
def lbX12_richest_4 (μ : PM)   (v1 : Int32) (v2 : Int32) : Option ((Int32 × Int32) ⊕ (Int32)) :=
  (if (μ.1 402 1) ≤ v2 then some (.inr (v1)) else (fX12_namesWith μ v2).bind fun q1 => (fX12_bits q1).bind fun q2 => (if v1 = (-1) then jjX12_richest_39_4 μ v1 v2 q2 0 else (fX12_namesWith μ v1).bind fun q3 => (fX12_bits q3).bind fun q4 => jjX12_richest_39_4 μ v1 v2 q2 q4))
def fX12_richest (μ : PM)  : Option (Int32) :=
  ((lp (fun s => lbX12_richest_4 μ s.1 s.2) go_fuel ((-1), 0)).bind fun ρ5 => some ρ5)
def ggX12_richest_4 (w : go_Wd) (tx : Nat) (Q : Option Value → go_M → Prop) (μ : PM)   (s : Int32 × Int32) : Prop := Go w 2 0 0 mtX12_richest 4 [(0, .ref 401), (1, .int s.1), (2, .int s.2)] [] (go_mk tx μ) (go_Z w Q)
def eeX12_richest_4 (w : go_Wd) (tx : Nat) (Q : Option Value → go_M → Prop) (μ : PM)   (y : Int32) : Prop := Q (some (.int y)) (go_mk tx μ)
set_option maxRecDepth 20000 in
set_option maxHeartbeats 4000000 in
theorem jqX12_richest_39_4 (w : go_Wd) (tx : Nat) (Q : Option Value → go_M → Prop) (μ : PM)  (v1 : Int32) (v2 : Int32)  (s0 : Int32) (s1 : Int32)  (out : (Int32 × Int32) ⊕ (Int32)) (h : jjX12_richest_39_4 μ v1 v2 s0 s1 = some out) (hK : go_out (ggX12_richest_4 w tx Q μ  ) (eeX12_richest_4 w tx Q μ  ) out) : Go w 2 0 0 mtX12_richest 39 [(0, .ref 401), (1, .int v1), (2, .int v2)] [.int s1, .int s0] (go_mk tx μ) (go_Z w Q) := by
  unfold jjX12_richest_39_4 at h
  refine go_icmp_le 44 dX12_richest_39 (by decide) (fun hc => ?_) (fun hc => ?_)
  · have h := go_ifp hc h
    refine go_iinc (v := (v2 + 1)) dX12_richest_44 2 rfl rfl (by decide) rfl ?_
    show Go w 2 0 0 mtX12_richest 47 [(2, .int (v2 + 1)), (0, .ref 401), (1, .int v1)] [] (go_mk tx μ) (go_Z w Q)
    refine go_goto 4 dX12_richest_47 (by decide) ?_
    cases h
    have hK : Go w 2 0 0 mtX12_richest 4 [(0, .ref 401), (1, .int v1), (2, .int (v2 + 1))] [] (go_mk tx μ) (go_Z w Q) := hK
    exact go_pick [1, 2, 0] rfl hK
  · have h := go_ifn hc h
    refine go_iload_n dX12_richest_42 2 rfl ?_
    refine go_istore_n dX12_richest_43 (by decide) rfl ?_
    show Go w 2 0 0 mtX12_richest 44 [(1, .int v2), (0, .ref 401), (2, .int v2)] [] (go_mk tx μ) (go_Z w Q)
    refine go_iinc (v := (v2 + 1)) dX12_richest_44 2 rfl rfl (by decide) rfl ?_
    show Go w 2 0 0 mtX12_richest 47 [(2, .int (v2 + 1)), (1, .int v2), (0, .ref 401)] [] (go_mk tx μ) (go_Z w Q)
    refine go_goto 4 dX12_richest_47 (by decide) ?_
    cases h
    have hK : Go w 2 0 0 mtX12_richest 4 [(0, .ref 401), (1, .int v2), (2, .int (v2 + 1))] [] (go_mk tx μ) (go_Z w Q) := hK
    exact go_pick [2, 1, 0] rfl hK
set_option maxRecDepth 20000 in
set_option maxHeartbeats 4000000 in
theorem lqX12_richest_4 (w : go_Wd) (tx : Nat) (Q : Option Value → go_M → Prop) (μ : PM)    (v1 : Int32) (v2 : Int32) (out : (Int32 × Int32) ⊕ (Int32)) (h : lbX12_richest_4 μ  v1 v2 = some out) (hK : go_out (ggX12_richest_4 w tx Q μ  ) (eeX12_richest_4 w tx Q μ  ) out) : ggX12_richest_4 w tx Q μ   (v1, v2) := by
  unfold lbX12_richest_4 at h
  show Go w 2 0 0 mtX12_richest 4 [(0, .ref 401), (1, .int v1), (2, .int v2)] [] (go_mk tx μ) (go_Z w Q)
  refine go_iload_n dX12_richest_4 2 rfl ?_
  refine go_aload_n dX12_richest_5 0 rfl ?_
  refine pp_getR dX12_richest_6 ff_X12_7 (Or.inr ⟨_, rfl⟩) sh_401 rf_401_0 ?_
  refine go_iconst (v := 1) dX12_richest_9 (by decide) ?_
  refine pp_ildc (q := 1) dX12_richest_10 sh_402 (by decide) ?_
  refine go_icmp_ge 50 dX12_richest_11 (by decide) (fun hc => ?_) (fun hc => ?_)
  · have h := go_ifp hc h
    refine go_iload_n dX12_richest_50 1 rfl ?_
    cases h
    exact go_iret dX12_richest_51 rfl hK
  · have h := go_ifn hc h
    refine go_aload_n dX12_richest_14 0 rfl ?_
    refine go_iload_n dX12_richest_15 2 rfl ?_
    obtain ⟨q1, hq1, h⟩ := go_bind h
    refine pp_callV (as := [.int v2]) (st := []) (rv := (some (.int q1))) (μ1 := μ) (st1 := [.int q1]) dX12_richest_16 ll_X12_391 sh_401 (by decide) rfl (ctX12_namesWith  hq1) rfl (Nat.le_of_ble_eq_true rfl) (Nat.le_of_ble_eq_true rfl) (go_Z_up w _) rfl rfl ?_
    obtain ⟨q2, hq2, h⟩ := go_bind h
    refine pp_callS (as := [.int q1]) (st := []) (rv := (some (.int q2))) (μ1 := μ) (st1 := [.int q2]) dX12_richest_19 ll_X12_397 (ctX12_bits  hq2) rfl (Nat.le_of_ble_eq_true rfl) (Nat.le_of_ble_eq_true rfl) (go_Z_up w _) rfl rfl ?_
    refine go_iload_n dX12_richest_22 1 rfl ?_
    refine go_iconst (v := (-1)) dX12_richest_23 (by decide) ?_
    refine go_icmp_ne 31 dX12_richest_24 (by decide) (fun hc => ?_) (fun hc => ?_)
    · have h := go_ifn hc h
      refine go_aload_n dX12_richest_31 0 rfl ?_
      refine go_iload_n dX12_richest_32 1 rfl ?_
      obtain ⟨q3, hq3, h⟩ := go_bind h
      refine pp_callV (as := [.int v1]) (st := [.int q2]) (rv := (some (.int q3))) (μ1 := μ) (st1 := [.int q3, .int q2]) dX12_richest_33 ll_X12_391 sh_401 (by decide) rfl (ctX12_namesWith  hq3) rfl (Nat.le_of_ble_eq_true rfl) (Nat.le_of_ble_eq_true rfl) (go_Z_up w _) rfl rfl ?_
      obtain ⟨q4, hq4, h⟩ := go_bind h
      refine pp_callS (as := [.int q3]) (st := [.int q2]) (rv := (some (.int q4))) (μ1 := μ) (st1 := [.int q4, .int q2]) dX12_richest_36 ll_X12_397 (ctX12_bits  hq4) rfl (Nat.le_of_ble_eq_true rfl) (Nat.le_of_ble_eq_true rfl) (go_Z_up w _) rfl rfl ?_
      refine go_pick [0, 1, 2] rfl ?_
      exact jqX12_richest_39_4 w tx Q μ  v1 v2  q2 q4  _ h hK
    · have h := go_ifp hc h
      refine go_iconst (v := 0) dX12_richest_27 (by decide) ?_
      refine go_goto 39 dX12_richest_28 (by decide) ?_
      refine go_pick [0, 1, 2] rfl ?_
      exact jqX12_richest_39_4 w tx Q μ  v1 v2  q2 0  _ h hK
set_option maxRecDepth 20000 in
set_option maxHeartbeats 4000000 in
theorem cmX12_richest (w : go_Wd) (tx : Nat) (Q : Option Value → go_M → Prop) (μ : PM)  (out : Int32) (h : fX12_richest μ = some out) (hK : Q (some (.int out)) (go_mk tx μ)) : Go w 2 0 0 mtX12_richest 0 [(0, .ref 401)] [] (go_mk tx μ) (go_Z w Q) := by
  unfold fX12_richest at h
  refine go_iconst (v := (-1)) dX12_richest_0 (by decide) ?_
  refine go_istore_n dX12_richest_1 (by decide) rfl ?_
  show Go w 2 0 0 mtX12_richest 2 [(1, .int (-1)), (0, .ref 401)] [] (go_mk tx μ) (go_Z w Q)
  refine go_iconst (v := 0) dX12_richest_2 (by decide) ?_
  refine go_istore_n dX12_richest_3 (by decide) rfl ?_
  show Go w 2 0 0 mtX12_richest 4 [(2, .int 0), (1, .int (-1)), (0, .ref 401)] [] (go_mk tx μ) (go_Z w Q)
  obtain ⟨ρ5, hρ5, h⟩ := go_bind h
  refine go_pick [2, 1, 0] rfl ?_
  refine go_lp (G := ggX12_richest_4 w tx Q μ  ) (E := eeX12_richest_4 w tx Q μ  ) (fun s out h hK => lqX12_richest_4 w tx Q μ    s.1 s.2 out h hK) go_fuel ((-1), 0) ρ5 hρ5 ?_
  cases h
  exact hK
theorem ctX12_richest {w : go_Wd} {tx : Nat} {μ : PM}  {r : Int32}  (h : fX12_richest μ = some r) : Ct w 2 0 0 mtX12_richest [.ref 401] (go_mk tx μ) (fun r' M' => r' = some (.int r) ∧ M' = go_mk tx μ) :=
  go_entry rfl (by decide) (Nat.le_of_ble_eq_true rfl) (cmX12_richest w tx _ μ  _ h ⟨rfl, rfl⟩)
def jjX12_next_46_4 (μ : PM)  (v2 : Int32)  : Option ((Int32 × Int32) ⊕ (Int32)) :=
  some (.inl (v2, (v2 + 1)))
def lbX12_next_4 (μ : PM)   (v1 : Int32) (v2 : Int32) : Option ((Int32 × Int32) ⊕ (Int32)) :=
  (if (μ.1 402 0) ≤ v2 then some (.inr (v1)) else (fX12_get μ v2 0).bind fun q1 => (if (fX12_isCell q1) = 0 then some (.inl (v1, (v2 + 1))) else (if v1 = (-1) then jjX12_next_46_4 μ v2 else (fX12_get μ v2 0).bind fun q2 => (fX12_get μ v1 0).bind fun q3 => (if q2 ≤ q3 then some (.inl (v1, (v2 + 1))) else jjX12_next_46_4 μ v2))))
def fX12_next (μ : PM)  : Option (Int32) :=
  ((lp (fun s => lbX12_next_4 μ s.1 s.2) go_fuel ((-1), 0)).bind fun ρ4 => some ρ4)
def ggX12_next_4 (w : go_Wd) (tx : Nat) (Q : Option Value → go_M → Prop) (μ : PM)   (s : Int32 × Int32) : Prop := Go w 2 0 0 mtX12_next 4 [(0, .ref 401), (1, .int s.1), (2, .int s.2)] [] (go_mk tx μ) (go_Z w Q)
def eeX12_next_4 (w : go_Wd) (tx : Nat) (Q : Option Value → go_M → Prop) (μ : PM)   (y : Int32) : Prop := Q (some (.int y)) (go_mk tx μ)
set_option maxRecDepth 20000 in
set_option maxHeartbeats 4000000 in
theorem jqX12_next_46_4 (w : go_Wd) (tx : Nat) (Q : Option Value → go_M → Prop) (μ : PM)  (v2 : Int32)    (out : (Int32 × Int32) ⊕ (Int32)) (h : jjX12_next_46_4 μ v2  = some out) (hK : go_out (ggX12_next_4 w tx Q μ  ) (eeX12_next_4 w tx Q μ  ) out) : Go w 2 0 0 mtX12_next 46 [(0, .ref 401), (2, .int v2)] [] (go_mk tx μ) (go_Z w Q) := by
  unfold jjX12_next_46_4 at h
  refine go_iload_n dX12_next_46 1 rfl ?_
  refine go_istore_n dX12_next_47 (by decide) rfl ?_
  show Go w 2 0 0 mtX12_next 48 [(1, .int v2), (0, .ref 401), (2, .int v2)] [] (go_mk tx μ) (go_Z w Q)
  refine go_iinc (v := (v2 + 1)) dX12_next_48 2 rfl rfl (by decide) rfl ?_
  show Go w 2 0 0 mtX12_next 51 [(2, .int (v2 + 1)), (1, .int v2), (0, .ref 401)] [] (go_mk tx μ) (go_Z w Q)
  refine go_goto 4 dX12_next_51 (by decide) ?_
  cases h
  have hK : Go w 2 0 0 mtX12_next 4 [(0, .ref 401), (1, .int v2), (2, .int (v2 + 1))] [] (go_mk tx μ) (go_Z w Q) := hK
  exact go_pick [2, 1, 0] rfl hK
set_option maxRecDepth 20000 in
set_option maxHeartbeats 4000000 in
theorem lqX12_next_4 (w : go_Wd) (tx : Nat) (Q : Option Value → go_M → Prop) (μ : PM)    (v1 : Int32) (v2 : Int32) (out : (Int32 × Int32) ⊕ (Int32)) (h : lbX12_next_4 μ  v1 v2 = some out) (hK : go_out (ggX12_next_4 w tx Q μ  ) (eeX12_next_4 w tx Q μ  ) out) : ggX12_next_4 w tx Q μ   (v1, v2) := by
  unfold lbX12_next_4 at h
  show Go w 2 0 0 mtX12_next 4 [(0, .ref 401), (1, .int v1), (2, .int v2)] [] (go_mk tx μ) (go_Z w Q)
  refine go_iload_n dX12_next_4 2 rfl ?_
  refine go_aload_n dX12_next_5 0 rfl ?_
  refine pp_getR dX12_next_6 ff_X12_7 (Or.inr ⟨_, rfl⟩) sh_401 rf_401_0 ?_
  refine go_iconst (v := 0) dX12_next_9 (by decide) ?_
  refine pp_ildc (q := 0) dX12_next_10 sh_402 (by decide) ?_
  refine go_icmp_ge 54 dX12_next_11 (by decide) (fun hc => ?_) (fun hc => ?_)
  · have h := go_ifp hc h
    refine go_iload_n dX12_next_54 1 rfl ?_
    cases h
    exact go_iret dX12_next_55 rfl hK
  · have h := go_ifn hc h
    refine go_aload_n dX12_next_14 0 rfl ?_
    refine go_iload_n dX12_next_15 2 rfl ?_
    refine go_iconst (v := 0) dX12_next_16 (by decide) ?_
    obtain ⟨q1, hq1, h⟩ := go_bind h
    refine pp_callV (as := [.int v2, .int 0]) (st := []) (rv := (some (.int q1))) (μ1 := μ) (st1 := [.int q1]) dX12_next_17 ll_X12_264 sh_401 (by decide) rfl (ctX12_get  hq1) rfl (Nat.le_of_ble_eq_true rfl) (Nat.le_of_ble_eq_true rfl) (go_Z_up w _) rfl rfl ?_
    refine pp_callS (as := [.int q1]) (st := []) (rv := (some (.int (fX12_isCell q1)))) (μ1 := μ) (st1 := [.int (fX12_isCell q1)]) dX12_next_20 ll_X12_84 (ctX12_isCell  rfl) rfl (Nat.le_of_ble_eq_true rfl) (Nat.le_of_ble_eq_true rfl) (go_Z_up w _) rfl rfl ?_
    refine go_if_eq 48 dX12_next_23 (by decide) (fun hc => ?_) (fun hc => ?_)
    · have h := go_ifp hc h
      refine go_iinc (v := (v2 + 1)) dX12_next_48 2 rfl rfl (by decide) rfl ?_
      show Go w 2 0 0 mtX12_next 51 [(2, .int (v2 + 1)), (0, .ref 401), (1, .int v1)] [] (go_mk tx μ) (go_Z w Q)
      refine go_goto 4 dX12_next_51 (by decide) ?_
      cases h
      have hK : Go w 2 0 0 mtX12_next 4 [(0, .ref 401), (1, .int v1), (2, .int (v2 + 1))] [] (go_mk tx μ) (go_Z w Q) := hK
      exact go_pick [1, 2, 0] rfl hK
    · have h := go_ifn hc h
      refine go_iload_n dX12_next_26 1 rfl ?_
      refine go_iconst (v := (-1)) dX12_next_27 (by decide) ?_
      refine go_icmp_eq 46 dX12_next_28 (by decide) (fun hc => ?_) (fun hc => ?_)
      · have h := go_ifp hc h
        refine go_pick [0, 2] rfl ?_
        exact jqX12_next_46_4 w tx Q μ  v2    _ h hK
      · have h := go_ifn hc h
        refine go_aload_n dX12_next_31 0 rfl ?_
        refine go_iload_n dX12_next_32 2 rfl ?_
        refine go_iconst (v := 0) dX12_next_33 (by decide) ?_
        obtain ⟨q2, hq2, h⟩ := go_bind h
        refine pp_callV (as := [.int v2, .int 0]) (st := []) (rv := (some (.int q2))) (μ1 := μ) (st1 := [.int q2]) dX12_next_34 ll_X12_264 sh_401 (by decide) rfl (ctX12_get  hq2) rfl (Nat.le_of_ble_eq_true rfl) (Nat.le_of_ble_eq_true rfl) (go_Z_up w _) rfl rfl ?_
        refine go_aload_n dX12_next_37 0 rfl ?_
        refine go_iload_n dX12_next_38 1 rfl ?_
        refine go_iconst (v := 0) dX12_next_39 (by decide) ?_
        obtain ⟨q3, hq3, h⟩ := go_bind h
        refine pp_callV (as := [.int v1, .int 0]) (st := [.int q2]) (rv := (some (.int q3))) (μ1 := μ) (st1 := [.int q3, .int q2]) dX12_next_40 ll_X12_264 sh_401 (by decide) rfl (ctX12_get  hq3) rfl (Nat.le_of_ble_eq_true rfl) (Nat.le_of_ble_eq_true rfl) (go_Z_up w _) rfl rfl ?_
        refine go_icmp_le 48 dX12_next_43 (by decide) (fun hc => ?_) (fun hc => ?_)
        · have h := go_ifp hc h
          refine go_iinc (v := (v2 + 1)) dX12_next_48 2 rfl rfl (by decide) rfl ?_
          show Go w 2 0 0 mtX12_next 51 [(2, .int (v2 + 1)), (0, .ref 401), (1, .int v1)] [] (go_mk tx μ) (go_Z w Q)
          refine go_goto 4 dX12_next_51 (by decide) ?_
          cases h
          have hK : Go w 2 0 0 mtX12_next 4 [(0, .ref 401), (1, .int v1), (2, .int (v2 + 1))] [] (go_mk tx μ) (go_Z w Q) := hK
          exact go_pick [1, 2, 0] rfl hK
        · have h := go_ifn hc h
          refine go_pick [0, 2] rfl ?_
          exact jqX12_next_46_4 w tx Q μ  v2    _ h hK
set_option maxRecDepth 20000 in
set_option maxHeartbeats 4000000 in
theorem cmX12_next (w : go_Wd) (tx : Nat) (Q : Option Value → go_M → Prop) (μ : PM)  (out : Int32) (h : fX12_next μ = some out) (hK : Q (some (.int out)) (go_mk tx μ)) : Go w 2 0 0 mtX12_next 0 [(0, .ref 401)] [] (go_mk tx μ) (go_Z w Q) := by
  unfold fX12_next at h
  refine go_iconst (v := (-1)) dX12_next_0 (by decide) ?_
  refine go_istore_n dX12_next_1 (by decide) rfl ?_
  show Go w 2 0 0 mtX12_next 2 [(1, .int (-1)), (0, .ref 401)] [] (go_mk tx μ) (go_Z w Q)
  refine go_iconst (v := 0) dX12_next_2 (by decide) ?_
  refine go_istore_n dX12_next_3 (by decide) rfl ?_
  show Go w 2 0 0 mtX12_next 4 [(2, .int 0), (1, .int (-1)), (0, .ref 401)] [] (go_mk tx μ) (go_Z w Q)
  obtain ⟨ρ4, hρ4, h⟩ := go_bind h
  refine go_pick [2, 1, 0] rfl ?_
  refine go_lp (G := ggX12_next_4 w tx Q μ  ) (E := eeX12_next_4 w tx Q μ  ) (fun s out h hK => lqX12_next_4 w tx Q μ    s.1 s.2 out h hK) go_fuel ((-1), 0) ρ4 hρ4 ?_
  cases h
  exact hK
theorem ctX12_next {w : go_Wd} {tx : Nat} {μ : PM}  {r : Int32}  (h : fX12_next μ = some r) : Ct w 2 0 0 mtX12_next [.ref 401] (go_mk tx μ) (fun r' M' => r' = some (.int r) ∧ M' = go_mk tx μ) :=
  go_entry rfl (by decide) (Nat.le_of_ble_eq_true rfl) (cmX12_next w tx _ μ  _ h ⟨rfl, rfl⟩)
def jjX12_frozen_30_4 (μ : PM)  (v2 : Int32) (s0 : Int32) (s1 : Int32) : Option ((Int32 × Int32) ⊕ (Int32)) :=
  some (.inl ((s0 ||| s1), (v2 + 1)))
def lbX12_frozen_4 (μ : PM)   (v1 : Int32) (v2 : Int32) : Option ((Int32 × Int32) ⊕ (Int32)) :=
  (if (μ.1 402 0) ≤ v2 then some (.inr (v1)) else (fX12_isIce μ v2).bind fun q1 => (if q1 = 0 then jjX12_frozen_30_4 μ v2 v1 0 else jjX12_frozen_30_4 μ v2 v1 (((1 : Int32) <<< (v2 &&& 31)))))
def fX12_frozen (μ : PM)  : Option (Int32) :=
  ((lp (fun s => lbX12_frozen_4 μ s.1 s.2) go_fuel (0, 0)).bind fun ρ2 => some ρ2)
def ggX12_frozen_4 (w : go_Wd) (tx : Nat) (Q : Option Value → go_M → Prop) (μ : PM)   (s : Int32 × Int32) : Prop := Go w 3 0 0 mtX12_frozen 4 [(0, .ref 401), (1, .int s.1), (2, .int s.2)] [] (go_mk tx μ) (go_Z w Q)
def eeX12_frozen_4 (w : go_Wd) (tx : Nat) (Q : Option Value → go_M → Prop) (μ : PM)   (y : Int32) : Prop := Q (some (.int y)) (go_mk tx μ)
set_option maxRecDepth 20000 in
set_option maxHeartbeats 4000000 in
theorem jqX12_frozen_30_4 (w : go_Wd) (tx : Nat) (Q : Option Value → go_M → Prop) (μ : PM)  (v2 : Int32)  (s0 : Int32) (s1 : Int32)  (out : (Int32 × Int32) ⊕ (Int32)) (h : jjX12_frozen_30_4 μ v2 s0 s1 = some out) (hK : go_out (ggX12_frozen_4 w tx Q μ  ) (eeX12_frozen_4 w tx Q μ  ) out) : Go w 3 0 0 mtX12_frozen 30 [(0, .ref 401), (2, .int v2)] [.int s1, .int s0] (go_mk tx μ) (go_Z w Q) := by
  unfold jjX12_frozen_30_4 at h
  refine go_ior dX12_frozen_30 ?_
  refine go_istore_n dX12_frozen_31 (by decide) rfl ?_
  show Go w 3 0 0 mtX12_frozen 32 [(1, .int (s0 ||| s1)), (0, .ref 401), (2, .int v2)] [] (go_mk tx μ) (go_Z w Q)
  refine go_iinc (v := (v2 + 1)) dX12_frozen_32 2 rfl rfl (by decide) rfl ?_
  show Go w 3 0 0 mtX12_frozen 35 [(2, .int (v2 + 1)), (1, .int (s0 ||| s1)), (0, .ref 401)] [] (go_mk tx μ) (go_Z w Q)
  refine go_goto 4 dX12_frozen_35 (by decide) ?_
  cases h
  have hK : Go w 3 0 0 mtX12_frozen 4 [(0, .ref 401), (1, .int (s0 ||| s1)), (2, .int (v2 + 1))] [] (go_mk tx μ) (go_Z w Q) := hK
  exact go_pick [2, 1, 0] rfl hK
set_option maxRecDepth 20000 in
set_option maxHeartbeats 4000000 in
theorem lqX12_frozen_4 (w : go_Wd) (tx : Nat) (Q : Option Value → go_M → Prop) (μ : PM)    (v1 : Int32) (v2 : Int32) (out : (Int32 × Int32) ⊕ (Int32)) (h : lbX12_frozen_4 μ  v1 v2 = some out) (hK : go_out (ggX12_frozen_4 w tx Q μ  ) (eeX12_frozen_4 w tx Q μ  ) out) : ggX12_frozen_4 w tx Q μ   (v1, v2) := by
  unfold lbX12_frozen_4 at h
  show Go w 3 0 0 mtX12_frozen 4 [(0, .ref 401), (1, .int v1), (2, .int v2)] [] (go_mk tx μ) (go_Z w Q)
  refine go_iload_n dX12_frozen_4 2 rfl ?_
  refine go_aload_n dX12_frozen_5 0 rfl ?_
  refine pp_getR dX12_frozen_6 ff_X12_7 (Or.inr ⟨_, rfl⟩) sh_401 rf_401_0 ?_
  refine go_iconst (v := 0) dX12_frozen_9 (by decide) ?_
  refine pp_ildc (q := 0) dX12_frozen_10 sh_402 (by decide) ?_
  refine go_icmp_ge 38 dX12_frozen_11 (by decide) (fun hc => ?_) (fun hc => ?_)
  · have h := go_ifp hc h
    refine go_iload_n dX12_frozen_38 1 rfl ?_
    cases h
    exact go_iret dX12_frozen_39 rfl hK
  · have h := go_ifn hc h
    refine go_iload_n dX12_frozen_14 1 rfl ?_
    refine go_aload_n dX12_frozen_15 0 rfl ?_
    refine go_iload_n dX12_frozen_16 2 rfl ?_
    obtain ⟨q1, hq1, h⟩ := go_bind h
    refine pp_callV (as := [.int v2]) (st := [.int v1]) (rv := (some (.int q1))) (μ1 := μ) (st1 := [.int q1, .int v1]) dX12_frozen_17 ll_X12_269 sh_401 (by decide) rfl (ctX12_isIce  hq1) rfl (Nat.le_of_ble_eq_true rfl) (Nat.le_of_ble_eq_true rfl) (go_Z_up w _) rfl rfl ?_
    refine go_if_eq 29 dX12_frozen_20 (by decide) (fun hc => ?_) (fun hc => ?_)
    · have h := go_ifp hc h
      refine go_iconst (v := 0) dX12_frozen_29 (by decide) ?_
      refine go_pick [0, 2] rfl ?_
      exact jqX12_frozen_30_4 w tx Q μ  v2  v1 0  _ h hK
    · have h := go_ifn hc h
      refine go_iconst (v := 1) dX12_frozen_23 (by decide) ?_
      refine go_iload_n dX12_frozen_24 2 rfl ?_
      refine go_ishl dX12_frozen_25 ?_
      refine go_goto 30 dX12_frozen_26 (by decide) ?_
      refine go_pick [0, 2] rfl ?_
      exact jqX12_frozen_30_4 w tx Q μ  v2  v1 (((1 : Int32) <<< (v2 &&& 31)))  _ h hK
set_option maxRecDepth 20000 in
set_option maxHeartbeats 4000000 in
theorem cmX12_frozen (w : go_Wd) (tx : Nat) (Q : Option Value → go_M → Prop) (μ : PM)  (out : Int32) (h : fX12_frozen μ = some out) (hK : Q (some (.int out)) (go_mk tx μ)) : Go w 3 0 0 mtX12_frozen 0 [(0, .ref 401)] [] (go_mk tx μ) (go_Z w Q) := by
  unfold fX12_frozen at h
  refine go_iconst (v := 0) dX12_frozen_0 (by decide) ?_
  refine go_istore_n dX12_frozen_1 (by decide) rfl ?_
  show Go w 3 0 0 mtX12_frozen 2 [(1, .int 0), (0, .ref 401)] [] (go_mk tx μ) (go_Z w Q)
  refine go_iconst (v := 0) dX12_frozen_2 (by decide) ?_
  refine go_istore_n dX12_frozen_3 (by decide) rfl ?_
  show Go w 3 0 0 mtX12_frozen 4 [(2, .int 0), (1, .int 0), (0, .ref 401)] [] (go_mk tx μ) (go_Z w Q)
  obtain ⟨ρ2, hρ2, h⟩ := go_bind h
  refine go_pick [2, 1, 0] rfl ?_
  refine go_lp (G := ggX12_frozen_4 w tx Q μ  ) (E := eeX12_frozen_4 w tx Q μ  ) (fun s out h hK => lqX12_frozen_4 w tx Q μ    s.1 s.2 out h hK) go_fuel (0, 0) ρ2 hρ2 ?_
  cases h
  exact hK
theorem ctX12_frozen {w : go_Wd} {tx : Nat} {μ : PM}  {r : Int32}  (h : fX12_frozen μ = some r) : Ct w 3 0 0 mtX12_frozen [.ref 401] (go_mk tx μ) (fun r' M' => r' = some (.int r) ∧ M' = go_mk tx μ) :=
  go_entry rfl (by decide) (Nat.le_of_ble_eq_true rfl) (cmX12_frozen w tx _ μ  _ h ⟨rfl, rfl⟩)
def lbX12_foretold_34 (a0 : Int32) (a1 : Int32) (a2 : Int32)  (v4 : Int32) (μ : PM) : Option ((Int32 × PM) ⊕ ((PM) ⊕ (Int32 × PM))) :=
  (if 29 ≤ v4 then some (.inr (.inl μ)) else go_chk v4 1792 <| go_chk v4 29 <| go_let (pm_wi μ 410 v4.toNatClampNeg (μ.1 402 v4.toNatClampNeg)) fun μ2 => some (.inl ((v4 + 1), μ2)))
def lbX12_foretold_69 (a0 : Int32) (a1 : Int32) (a2 : Int32)  (v4 : Int32) (μ : PM) : Option ((Int32 × PM) ⊕ ((PM) ⊕ (Int32 × PM))) :=
  (if a0 ≤ v4 then some (.inr (.inl μ)) else (if 9999 ≤ (μ.1 402 7) then some (.inl ((v4 + 1), μ)) else (fX12_pass μ).bind fun q7 => some (.inl ((v4 + 1), q7))))
def lbX12_foretold_118 (a0 : Int32) (a1 : Int32) (a2 : Int32) (v4 : Int32) (v5 : Int32) (μ : PM) : Option ((Int32 × PM) ⊕ (Int32 × PM)) :=
  (if 29 ≤ v5 then go_let (pm_wi μ 401 23 1) fun μ11 => some (.inr ((v4, μ11))) else go_chk v5 29 <| go_chk v5 1792 <| go_let (pm_wi μ 402 v5.toNatClampNeg (μ.1 410 v5.toNatClampNeg)) fun μ13 => some (.inl ((v5 + 1), μ13)))
def jjX12_foretold_109 (μ : PM) (a0 : Int32) (a1 : Int32) (a2 : Int32)  (s1 : Int32) (s2 : Int32) : Option (Int32 × PM) :=
  (fX12_get μ s1 s2).bind fun q10 => ((lp (fun s => lbX12_foretold_118 a0 a1 a2 q10 s.1 s.2) go_fuel (7, μ)).bind fun ρ15 => some ρ15)
def fX12_foretold (μ : PM) (a0 : Int32) (a1 : Int32) (a2 : Int32) : Option (Int32 × PM) :=
  (if (fX12_isIn a0 1 60) = 0 then some (((-2), μ)) else (if (fX12_isName μ a1) = 0 then some (((-2), μ)) else (if (fX12_isIn a2 0 1) = 0 then some (((-2), μ)) else ((lp (fun s => lbX12_foretold_34 a0 a1 a2 s.1 s.2) go_fuel (7, μ)).bind fun ρ4 => go_cs ρ4 (fun e5 => go_let (pm_wi e5 401 23 0) fun μ6 => ((lp (fun s => lbX12_foretold_69 a0 a1 a2 s.1 s.2) go_fuel (0, μ6)).bind fun ρ8 => go_cs ρ8 (fun e9 => (if a2 = 0 then jjX12_foretold_109 e9 a0 a1 a2 a1 0 else jjX12_foretold_109 e9 a0 a1 a2 a1 1)) (fun y => some y))) (fun y => some y)))))
def ggX12_foretold_34 (w : go_Wd) (tx : Nat) (Q : Option Value → go_M → Prop) (a0 : Int32) (a1 : Int32) (a2 : Int32)  (s : Int32 × PM) : Prop := Go w 10 0 0 mtX12_foretold 34 [(0, .ref 401), (1, .int a0), (2, .int a1), (3, .int a2), (4, .int s.1)] [] (go_mk tx s.2) (go_Z w Q)
def ggX12_foretold_69 (w : go_Wd) (tx : Nat) (Q : Option Value → go_M → Prop) (a0 : Int32) (a1 : Int32) (a2 : Int32)  (s : Int32 × PM) : Prop := Go w 10 0 0 mtX12_foretold 69 [(0, .ref 401), (1, .int a0), (2, .int a1), (3, .int a2), (4, .int s.1)] [] (go_mk tx s.2) (go_Z w Q)
def ggX12_foretold_118 (w : go_Wd) (tx : Nat) (Q : Option Value → go_M → Prop) (a0 : Int32) (a1 : Int32) (a2 : Int32) (v4 : Int32) (s : Int32 × PM) : Prop := Go w 10 0 0 mtX12_foretold 118 [(0, .ref 401), (4, .int v4), (5, .int s.1)] [] (go_mk tx s.2) (go_Z w Q)
def eeX12_foretold_34 (w : go_Wd) (tx : Nat) (Q : Option Value → go_M → Prop) (a0 : Int32) (a1 : Int32) (a2 : Int32)  : (PM) ⊕ (Int32 × PM) → Prop
  | .inl e => Go w 10 0 0 mtX12_foretold 61 [(0, .ref 401), (1, .int a0), (2, .int a1), (3, .int a2)] [] (go_mk tx e) (go_Z w Q)
  | .inr y => Q (some (.int y.1)) (go_mk tx y.2)
def eeX12_foretold_69 (w : go_Wd) (tx : Nat) (Q : Option Value → go_M → Prop) (a0 : Int32) (a1 : Int32) (a2 : Int32)  : (PM) ⊕ (Int32 × PM) → Prop
  | .inl e => Go w 10 0 0 mtX12_foretold 98 [(0, .ref 401), (2, .int a1), (3, .int a2)] [] (go_mk tx e) (go_Z w Q)
  | .inr y => Q (some (.int y.1)) (go_mk tx y.2)
def eeX12_foretold_118 (w : go_Wd) (tx : Nat) (Q : Option Value → go_M → Prop) (a0 : Int32) (a1 : Int32) (a2 : Int32) (v4 : Int32) (y : Int32 × PM) : Prop := Q (some (.int y.1)) (go_mk tx y.2)
set_option maxRecDepth 20000 in
set_option maxHeartbeats 4000000 in
theorem lqX12_foretold_34 (w : go_Wd) (tx : Nat) (Q : Option Value → go_M → Prop) (a0 : Int32) (a1 : Int32) (a2 : Int32)   (v4 : Int32) (μ : PM) (out : (Int32 × PM) ⊕ ((PM) ⊕ (Int32 × PM))) (h : lbX12_foretold_34 a0 a1 a2  v4 μ = some out) (hK : go_out (ggX12_foretold_34 w tx Q a0 a1 a2 ) (eeX12_foretold_34 w tx Q a0 a1 a2 ) out) : ggX12_foretold_34 w tx Q a0 a1 a2  (v4, μ) := by
  unfold lbX12_foretold_34 at h
  show Go w 10 0 0 mtX12_foretold 34 [(0, .ref 401), (1, .int a0), (2, .int a1), (3, .int a2), (4, .int v4)] [] (go_mk tx μ) (go_Z w Q)
  refine go_iload dX12_foretold_34 4 rfl ?_
  refine go_bipush (v := 29) dX12_foretold_36 (by decide) ?_
  refine go_icmp_ge 61 dX12_foretold_38 (by decide) (fun hc => ?_) (fun hc => ?_)
  · have h := go_ifp hc h
    cases h
    have hK : Go w 10 0 0 mtX12_foretold 61 [(0, .ref 401), (1, .int a0), (2, .int a1), (3, .int a2)] [] (go_mk tx μ) (go_Z w Q) := hK
    exact go_pick [0, 1, 2, 3] rfl hK
  · have h := go_ifn hc h
    refine go_aload_n dX12_foretold_41 0 rfl ?_
    refine pp_getR dX12_foretold_42 ff_X12_47 (Or.inr ⟨_, rfl⟩) sh_401 rf_401_25 ?_
    refine go_iload dX12_foretold_45 4 rfl ?_
    refine go_aload_n dX12_foretold_47 0 rfl ?_
    refine pp_getR dX12_foretold_48 ff_X12_7 (Or.inr ⟨_, rfl⟩) sh_401 rf_401_0 ?_
    refine go_iload dX12_foretold_51 4 rfl ?_
    obtain ⟨hz1, h⟩ := go_chk_e h
    refine pp_ild dX12_foretold_53 sh_402 hz1 ?_
    obtain ⟨hz3, h⟩ := go_chk_e h
    obtain ⟨μ2, hμ2, h⟩ := go_let_e h
    refine pp_ist dX12_foretold_54 sh_410 hz3 hμ2 ?_
    refine go_iinc (v := (v4 + 1)) dX12_foretold_55 4 rfl rfl (by decide) rfl ?_
    show Go w 10 0 0 mtX12_foretold 58 [(4, .int (v4 + 1)), (0, .ref 401), (1, .int a0), (2, .int a1), (3, .int a2)] [] (go_mk tx μ2) (go_Z w Q)
    refine go_goto 34 dX12_foretold_58 (by decide) ?_
    cases h
    have hK : Go w 10 0 0 mtX12_foretold 34 [(0, .ref 401), (1, .int a0), (2, .int a1), (3, .int a2), (4, .int (v4 + 1))] [] (go_mk tx μ2) (go_Z w Q) := hK
    exact go_pick [1, 2, 3, 4, 0] rfl hK
set_option maxRecDepth 20000 in
set_option maxHeartbeats 4000000 in
theorem lqX12_foretold_69 (w : go_Wd) (tx : Nat) (Q : Option Value → go_M → Prop) (a0 : Int32) (a1 : Int32) (a2 : Int32)   (v4 : Int32) (μ : PM) (out : (Int32 × PM) ⊕ ((PM) ⊕ (Int32 × PM))) (h : lbX12_foretold_69 a0 a1 a2  v4 μ = some out) (hK : go_out (ggX12_foretold_69 w tx Q a0 a1 a2 ) (eeX12_foretold_69 w tx Q a0 a1 a2 ) out) : ggX12_foretold_69 w tx Q a0 a1 a2  (v4, μ) := by
  unfold lbX12_foretold_69 at h
  show Go w 10 0 0 mtX12_foretold 69 [(0, .ref 401), (1, .int a0), (2, .int a1), (3, .int a2), (4, .int v4)] [] (go_mk tx μ) (go_Z w Q)
  refine go_iload dX12_foretold_69 4 rfl ?_
  refine go_iload_n dX12_foretold_71 1 rfl ?_
  refine go_icmp_ge 98 dX12_foretold_72 (by decide) (fun hc => ?_) (fun hc => ?_)
  · have h := go_ifp hc h
    cases h
    have hK : Go w 10 0 0 mtX12_foretold 98 [(0, .ref 401), (2, .int a1), (3, .int a2)] [] (go_mk tx μ) (go_Z w Q) := hK
    exact go_pick [0, 2, 3] rfl hK
  · have h := go_ifn hc h
    refine go_aload_n dX12_foretold_75 0 rfl ?_
    refine pp_getR dX12_foretold_76 ff_X12_7 (Or.inr ⟨_, rfl⟩) sh_401 rf_401_0 ?_
    refine go_bipush (v := 7) dX12_foretold_79 (by decide) ?_
    refine pp_ildc (q := 7) dX12_foretold_81 sh_402 (by decide) ?_
    refine go_sipush (v := 9999) dX12_foretold_82 (by decide) ?_
    refine go_icmp_ge 92 dX12_foretold_85 (by decide) (fun hc => ?_) (fun hc => ?_)
    · have h := go_ifp hc h
      refine go_iinc (v := (v4 + 1)) dX12_foretold_92 4 rfl rfl (by decide) rfl ?_
      show Go w 10 0 0 mtX12_foretold 95 [(4, .int (v4 + 1)), (0, .ref 401), (1, .int a0), (2, .int a1), (3, .int a2)] [] (go_mk tx μ) (go_Z w Q)
      refine go_goto 69 dX12_foretold_95 (by decide) ?_
      cases h
      have hK : Go w 10 0 0 mtX12_foretold 69 [(0, .ref 401), (1, .int a0), (2, .int a1), (3, .int a2), (4, .int (v4 + 1))] [] (go_mk tx μ) (go_Z w Q) := hK
      exact go_pick [1, 2, 3, 4, 0] rfl hK
    · have h := go_ifn hc h
      refine go_aload_n dX12_foretold_88 0 rfl ?_
      obtain ⟨q7, hq7, h⟩ := go_bind h
      refine pp_callV (as := []) (st := []) (rv := none) (μ1 := q7) (st1 := []) dX12_foretold_89 ll_X12_357 sh_401 (by decide) rfl (ctX12_pass  hq7) rfl (Nat.le_of_ble_eq_true rfl) (Nat.le_of_ble_eq_true rfl) (go_Z_up w _) rfl rfl ?_
      refine go_iinc (v := (v4 + 1)) dX12_foretold_92 4 rfl rfl (by decide) rfl ?_
      show Go w 10 0 0 mtX12_foretold 95 [(4, .int (v4 + 1)), (0, .ref 401), (1, .int a0), (2, .int a1), (3, .int a2)] [] (go_mk tx q7) (go_Z w Q)
      refine go_goto 69 dX12_foretold_95 (by decide) ?_
      cases h
      have hK : Go w 10 0 0 mtX12_foretold 69 [(0, .ref 401), (1, .int a0), (2, .int a1), (3, .int a2), (4, .int (v4 + 1))] [] (go_mk tx q7) (go_Z w Q) := hK
      exact go_pick [1, 2, 3, 4, 0] rfl hK
set_option maxRecDepth 20000 in
set_option maxHeartbeats 4000000 in
theorem lqX12_foretold_118 (w : go_Wd) (tx : Nat) (Q : Option Value → go_M → Prop) (a0 : Int32) (a1 : Int32) (a2 : Int32) (v4 : Int32)  (v5 : Int32) (μ : PM) (out : (Int32 × PM) ⊕ (Int32 × PM)) (h : lbX12_foretold_118 a0 a1 a2 v4 v5 μ = some out) (hK : go_out (ggX12_foretold_118 w tx Q a0 a1 a2 v4) (eeX12_foretold_118 w tx Q a0 a1 a2 v4) out) : ggX12_foretold_118 w tx Q a0 a1 a2 v4 (v5, μ) := by
  unfold lbX12_foretold_118 at h
  show Go w 10 0 0 mtX12_foretold 118 [(0, .ref 401), (4, .int v4), (5, .int v5)] [] (go_mk tx μ) (go_Z w Q)
  refine go_iload dX12_foretold_118 2 rfl ?_
  refine go_bipush (v := 29) dX12_foretold_120 (by decide) ?_
  refine go_icmp_ge 145 dX12_foretold_122 (by decide) (fun hc => ?_) (fun hc => ?_)
  · have h := go_ifp hc h
    refine go_aload_n dX12_foretold_145 0 rfl ?_
    refine go_iconst (v := 1) dX12_foretold_146 (by decide) ?_
    obtain ⟨μ11, hμ11, h⟩ := go_let_e h
    refine pp_putI dX12_foretold_147 ff_X12_43 (Or.inr ⟨rfl, (Or.inr rfl)⟩) sh_401 hμ11 ?_
    refine go_iload dX12_foretold_150 1 rfl ?_
    cases h
    exact go_iret dX12_foretold_152 rfl hK
  · have h := go_ifn hc h
    refine go_aload_n dX12_foretold_125 0 rfl ?_
    refine pp_getR dX12_foretold_126 ff_X12_7 (Or.inr ⟨_, rfl⟩) sh_401 rf_401_0 ?_
    refine go_iload dX12_foretold_129 2 rfl ?_
    refine go_aload_n dX12_foretold_131 0 rfl ?_
    refine pp_getR dX12_foretold_132 ff_X12_47 (Or.inr ⟨_, rfl⟩) sh_401 rf_401_25 ?_
    refine go_iload dX12_foretold_135 2 rfl ?_
    obtain ⟨hz12, h⟩ := go_chk_e h
    refine pp_ild dX12_foretold_137 sh_410 hz12 ?_
    obtain ⟨hz14, h⟩ := go_chk_e h
    obtain ⟨μ13, hμ13, h⟩ := go_let_e h
    refine pp_ist dX12_foretold_138 sh_402 hz14 hμ13 ?_
    refine go_iinc (v := (v5 + 1)) dX12_foretold_139 2 rfl rfl (by decide) rfl ?_
    show Go w 10 0 0 mtX12_foretold 142 [(5, .int (v5 + 1)), (0, .ref 401), (4, .int v4)] [] (go_mk tx μ13) (go_Z w Q)
    refine go_goto 118 dX12_foretold_142 (by decide) ?_
    cases h
    have hK : Go w 10 0 0 mtX12_foretold 118 [(0, .ref 401), (4, .int v4), (5, .int (v5 + 1))] [] (go_mk tx μ13) (go_Z w Q) := hK
    exact go_pick [1, 2, 0] rfl hK
set_option maxRecDepth 20000 in
set_option maxHeartbeats 4000000 in
theorem jqX12_foretold_109 (w : go_Wd) (tx : Nat) (Q : Option Value → go_M → Prop) (μ : PM) (a0 : Int32) (a1 : Int32) (a2 : Int32)   (s1 : Int32) (s2 : Int32) (hs2 : s2 = 0 ∨ s2 = 1) (out : Int32 × PM) (h : jjX12_foretold_109 μ a0 a1 a2  s1 s2 = some out) (hK : Q (some (.int out.1)) (go_mk tx out.2)) : Go w 10 0 0 mtX12_foretold 109 [(0, .ref 401)] [.int s2, .int s1, .ref 401] (go_mk tx μ) (go_Z w Q) := by
  unfold jjX12_foretold_109 at h
  obtain ⟨q10, hq10, h⟩ := go_bind h
  refine pp_callV (as := [.int s1, .int s2]) (st := []) (rv := (some (.int q10))) (μ1 := μ) (st1 := [.int q10]) dX12_foretold_109 ll_X12_264 sh_401 (by decide) rfl (ctX12_get  hq10) rfl (Nat.le_of_ble_eq_true rfl) (Nat.le_of_ble_eq_true rfl) (go_Z_up w _) rfl rfl ?_
  refine go_istore dX12_foretold_112 (by decide) rfl ?_
  show Go w 10 0 0 mtX12_foretold 114 [(4, .int q10), (0, .ref 401)] [] (go_mk tx μ) (go_Z w Q)
  refine go_bipush (v := 7) dX12_foretold_114 (by decide) ?_
  refine go_istore dX12_foretold_116 (by decide) rfl ?_
  show Go w 10 0 0 mtX12_foretold 118 [(5, .int 7), (4, .int q10), (0, .ref 401)] [] (go_mk tx μ) (go_Z w Q)
  obtain ⟨ρ15, hρ15, h⟩ := go_bind h
  refine go_pick [2, 1, 0] rfl ?_
  refine go_lp (G := ggX12_foretold_118 w tx Q a0 a1 a2 q10) (E := eeX12_foretold_118 w tx Q a0 a1 a2 q10) (fun s out h hK => lqX12_foretold_118 w tx Q a0 a1 a2 q10  s.1 s.2 out h hK) go_fuel (7, μ) ρ15 hρ15 ?_
  cases h
  exact hK
set_option maxRecDepth 20000 in
set_option maxHeartbeats 4000000 in
theorem cmX12_foretold (w : go_Wd) (tx : Nat) (Q : Option Value → go_M → Prop) (μ : PM) (a0 : Int32) (a1 : Int32) (a2 : Int32) (out : Int32 × PM) (h : fX12_foretold μ a0 a1 a2 = some out) (hK : Q (some (.int out.1)) (go_mk tx out.2)) : Go w 10 0 0 mtX12_foretold 0 [(0, .ref 401), (1, .int a0), (2, .int a1), (3, .int a2)] [] (go_mk tx μ) (go_Z w Q) := by
  unfold fX12_foretold at h
  refine go_iload_n dX12_foretold_0 1 rfl ?_
  refine go_iconst (v := 1) dX12_foretold_1 (by decide) ?_
  refine go_bipush (v := 60) dX12_foretold_2 (by decide) ?_
  refine pp_callS (as := [.int a0, .int 1, .int 60]) (st := []) (rv := (some (.int (fX12_isIn a0 1 60)))) (μ1 := μ) (st1 := [.int (fX12_isIn a0 1 60)]) dX12_foretold_4 ll_X12_63 (ctX12_isIn  rfl) rfl (Nat.le_of_ble_eq_true rfl) (Nat.le_of_ble_eq_true rfl) (go_Z_up w _) rfl rfl ?_
  refine go_if_eq 27 dX12_foretold_7 (by decide) (fun hc => ?_) (fun hc => ?_)
  · have h := go_ifp hc h
    refine go_bipush (v := (-2)) dX12_foretold_27 (by decide) ?_
    cases h
    exact go_iret dX12_foretold_29 rfl hK
  · have h := go_ifn hc h
    refine go_aload_n dX12_foretold_10 0 rfl ?_
    refine go_iload_n dX12_foretold_11 2 rfl ?_
    refine pp_callV (as := [.int a1]) (st := []) (rv := (some (.int (fX12_isName μ a1)))) (μ1 := μ) (st1 := [.int (fX12_isName μ a1)]) dX12_foretold_12 ll_X12_261 sh_401 (by decide) rfl (ctX12_isName  rfl) rfl (Nat.le_of_ble_eq_true rfl) (Nat.le_of_ble_eq_true rfl) (go_Z_up w _) rfl rfl ?_
    refine go_if_eq 27 dX12_foretold_15 (by decide) (fun hc => ?_) (fun hc => ?_)
    · have h := go_ifp hc h
      refine go_bipush (v := (-2)) dX12_foretold_27 (by decide) ?_
      cases h
      exact go_iret dX12_foretold_29 rfl hK
    · have h := go_ifn hc h
      refine go_iload_n dX12_foretold_18 3 rfl ?_
      refine go_iconst (v := 0) dX12_foretold_19 (by decide) ?_
      refine go_iconst (v := 1) dX12_foretold_20 (by decide) ?_
      refine pp_callS (as := [.int a2, .int 0, .int 1]) (st := []) (rv := (some (.int (fX12_isIn a2 0 1)))) (μ1 := μ) (st1 := [.int (fX12_isIn a2 0 1)]) dX12_foretold_21 ll_X12_63 (ctX12_isIn  rfl) rfl (Nat.le_of_ble_eq_true rfl) (Nat.le_of_ble_eq_true rfl) (go_Z_up w _) rfl rfl ?_
      refine go_if_ne 30 dX12_foretold_24 (by decide) (fun hc => ?_) (fun hc => ?_)
      · have h := go_ifn hc h
        refine go_bipush (v := 7) dX12_foretold_30 (by decide) ?_
        refine go_istore dX12_foretold_32 (by decide) rfl ?_
        show Go w 10 0 0 mtX12_foretold 34 [(4, .int 7), (0, .ref 401), (1, .int a0), (2, .int a1), (3, .int a2)] [] (go_mk tx μ) (go_Z w Q)
        obtain ⟨ρ4, hρ4, h⟩ := go_bind h
        refine go_pick [1, 2, 3, 4, 0] rfl ?_
        refine go_lp (G := ggX12_foretold_34 w tx Q a0 a1 a2 ) (E := eeX12_foretold_34 w tx Q a0 a1 a2 ) (fun s out h hK => lqX12_foretold_34 w tx Q a0 a1 a2   s.1 s.2 out h hK) go_fuel (7, μ) ρ4 hρ4 ?_
        rcases ρ4 with e5 | y
        · have h := go_csl h
          show Go w 10 0 0 mtX12_foretold 61 [(0, .ref 401), (1, .int a0), (2, .int a1), (3, .int a2)] [] (go_mk tx e5) (go_Z w Q)
          refine go_aload_n dX12_foretold_61 0 rfl ?_
          refine go_iconst (v := 0) dX12_foretold_62 (by decide) ?_
          obtain ⟨μ6, hμ6, h⟩ := go_let_e h
          refine pp_putI dX12_foretold_63 ff_X12_43 (Or.inr ⟨rfl, (Or.inl rfl)⟩) sh_401 hμ6 ?_
          refine go_iconst (v := 0) dX12_foretold_66 (by decide) ?_
          refine go_istore dX12_foretold_67 (by decide) rfl ?_
          show Go w 10 0 0 mtX12_foretold 69 [(4, .int 0), (0, .ref 401), (1, .int a0), (2, .int a1), (3, .int a2)] [] (go_mk tx μ6) (go_Z w Q)
          obtain ⟨ρ8, hρ8, h⟩ := go_bind h
          refine go_pick [1, 2, 3, 4, 0] rfl ?_
          refine go_lp (G := ggX12_foretold_69 w tx Q a0 a1 a2 ) (E := eeX12_foretold_69 w tx Q a0 a1 a2 ) (fun s out h hK => lqX12_foretold_69 w tx Q a0 a1 a2   s.1 s.2 out h hK) go_fuel (0, μ6) ρ8 hρ8 ?_
          rcases ρ8 with e9 | y
          · have h := go_csl h
            show Go w 10 0 0 mtX12_foretold 98 [(0, .ref 401), (2, .int a1), (3, .int a2)] [] (go_mk tx e9) (go_Z w Q)
            refine go_aload_n dX12_foretold_98 0 rfl ?_
            refine go_iload_n dX12_foretold_99 1 rfl ?_
            refine go_iload_n dX12_foretold_100 2 rfl ?_
            refine go_if_ne 108 dX12_foretold_101 (by decide) (fun hc => ?_) (fun hc => ?_)
            · have h := go_ifn hc h
              refine go_iconst (v := 1) dX12_foretold_108 (by decide) ?_
              refine go_pick [0] rfl ?_
              exact jqX12_foretold_109 w tx Q e9 a0 a1 a2   a1 1 (Or.inr rfl) _ h hK
            · have h := go_ifp hc h
              refine go_iconst (v := 0) dX12_foretold_104 (by decide) ?_
              refine go_goto 109 dX12_foretold_105 (by decide) ?_
              refine go_pick [0] rfl ?_
              exact jqX12_foretold_109 w tx Q e9 a0 a1 a2   a1 0 (Or.inl rfl) _ h hK
          · have h := go_csr h
            cases h
            exact hK
        · have h := go_csr h
          cases h
          exact hK
      · have h := go_ifp hc h
        refine go_bipush (v := (-2)) dX12_foretold_27 (by decide) ?_
        cases h
        exact go_iret dX12_foretold_29 rfl hK
theorem ctX12_foretold {w : go_Wd} {tx : Nat} {μ : PM} {a0 : Int32} {a1 : Int32} {a2 : Int32} {r : Int32} {μ1 : PM}  (h : fX12_foretold μ a0 a1 a2 = some (r, μ1)) : Ct w 10 0 0 mtX12_foretold [.ref 401, .int a0, .int a1, .int a2] (go_mk tx μ) (fun r' M' => r' = some (.int r) ∧ M' = go_mk tx μ1) :=
  go_entry rfl (by decide) (Nat.le_of_ble_eq_true rfl) (cmX12_foretold w tx _ μ a0 a1 a2 _ h ⟨rfl, rfl⟩)
def fX12_isPair (a0 : Int32) (a1 : Int32) : Int32 :=
  (if (fX12_isIn a0 0 4) = 0 then 0 else (if (fX12_isIn a1 0 5) = 0 then 0 else 1))
set_option maxRecDepth 20000 in
set_option maxHeartbeats 4000000 in
theorem cmX12_isPair (w : go_Wd) (tx : Nat) (Q : Option Value → go_M → Prop) (μ : PM) (a0 : Int32) (a1 : Int32) (out : Int32) (h : fX12_isPair a0 a1 = out) (hK : Q (some (.int out)) (go_mk tx μ)) : Go w 1 0 0 mtX12_isPair 0 [(0, .int a0), (1, .int a1)] [] (go_mk tx μ) (go_Z w Q) := by
  unfold fX12_isPair at h
  refine go_iload_n dX12_isPair_0 0 rfl ?_
  refine go_iconst (v := 0) dX12_isPair_1 (by decide) ?_
  refine go_iconst (v := 4) dX12_isPair_2 (by decide) ?_
  refine pp_callS (as := [.int a0, .int 0, .int 4]) (st := []) (rv := (some (.int (fX12_isIn a0 0 4)))) (μ1 := μ) (st1 := [.int (fX12_isIn a0 0 4)]) dX12_isPair_3 ll_X12_63 (ctX12_isIn  rfl) rfl (Nat.le_of_ble_eq_true rfl) (Nat.le_of_ble_eq_true rfl) (go_Z_up w _) rfl rfl ?_
  refine go_if_eq 22 dX12_isPair_6 (by decide) (fun hc => ?_) (fun hc => ?_)
  · have h := go_ifp hc h
    refine go_iconst (v := 0) dX12_isPair_22 (by decide) ?_
    subst h
    exact go_zret dX12_isPair_23 rfl (Or.inl rfl) hK
  · have h := go_ifn hc h
    refine go_iload_n dX12_isPair_9 1 rfl ?_
    refine go_iconst (v := 0) dX12_isPair_10 (by decide) ?_
    refine go_iconst (v := 5) dX12_isPair_11 (by decide) ?_
    refine pp_callS (as := [.int a1, .int 0, .int 5]) (st := []) (rv := (some (.int (fX12_isIn a1 0 5)))) (μ1 := μ) (st1 := [.int (fX12_isIn a1 0 5)]) dX12_isPair_12 ll_X12_63 (ctX12_isIn  rfl) rfl (Nat.le_of_ble_eq_true rfl) (Nat.le_of_ble_eq_true rfl) (go_Z_up w _) rfl rfl ?_
    refine go_if_eq 22 dX12_isPair_15 (by decide) (fun hc => ?_) (fun hc => ?_)
    · have h := go_ifp hc h
      refine go_iconst (v := 0) dX12_isPair_22 (by decide) ?_
      subst h
      exact go_zret dX12_isPair_23 rfl (Or.inl rfl) hK
    · have h := go_ifn hc h
      refine go_iconst (v := 1) dX12_isPair_18 (by decide) ?_
      refine go_goto 23 dX12_isPair_19 (by decide) ?_
      subst h
      exact go_zret dX12_isPair_23 rfl (Or.inr rfl) hK
theorem ctX12_isPair {w : go_Wd} {tx : Nat} {μ : PM} {a0 : Int32} {a1 : Int32} {r : Int32}  (h : fX12_isPair a0 a1 = r) : Ct w 1 0 0 mtX12_isPair [.int a0, .int a1] (go_mk tx μ) (fun r' M' => r' = some (.int r) ∧ M' = go_mk tx μ) :=
  go_entry rfl (by decide) (Nat.le_of_ble_eq_true rfl) (cmX12_isPair w tx _ μ a0 a1 _ h ⟨rfl, rfl⟩)
theorem bzX12_isPair {a0 : Int32} {a1 : Int32} {r : Int32} (h : fX12_isPair a0 a1 = r) : r = 0 ∨ r = 1 := by
  subst h
  show go_bi _
  unfold fX12_isPair
  repeat' first | exact bi_0 | exact bi_1 | exact bzX12_isIn rfl | with_reducible apply bi_ite
def fX12_wants (μ : PM) (a0 : Int32) (a1 : Int32) (a2 : Int32) : Option (Int32 × PM) :=
  (if (fX12_isPair a0 a1) = 0 then some ((0, μ)) else (if (fX12_isIn a2 0 99) = 0 then some ((0, μ)) else go_chk ((52 + (6 * a0)) + a1) 1792 <| go_let (pm_wi μ 402 (((52 + (6 * a0)) + a1) : Int32).toNatClampNeg a2) fun μ1 => some ((1, μ1))))
set_option maxRecDepth 20000 in
set_option maxHeartbeats 4000000 in
theorem cmX12_wants (w : go_Wd) (tx : Nat) (Q : Option Value → go_M → Prop) (μ : PM) (a0 : Int32) (a1 : Int32) (a2 : Int32) (out : Int32 × PM) (h : fX12_wants μ a0 a1 a2 = some out) (hK : Q (some (.int out.1)) (go_mk tx out.2)) : Go w 2 0 0 mtX12_wants 0 [(0, .ref 401), (1, .int a0), (2, .int a1), (3, .int a2)] [] (go_mk tx μ) (go_Z w Q) := by
  unfold fX12_wants at h
  refine go_iload_n dX12_wants_0 1 rfl ?_
  refine go_iload_n dX12_wants_1 2 rfl ?_
  refine pp_callS (as := [.int a0, .int a1]) (st := []) (rv := (some (.int (fX12_isPair a0 a1)))) (μ1 := μ) (st1 := [.int (fX12_isPair a0 a1)]) dX12_wants_2 ll_X12_400 (ctX12_isPair  rfl) rfl (Nat.le_of_ble_eq_true rfl) (Nat.le_of_ble_eq_true rfl) (go_Z_up w _) rfl rfl ?_
  refine go_if_eq 18 dX12_wants_5 (by decide) (fun hc => ?_) (fun hc => ?_)
  · have h := go_ifp hc h
    refine go_iconst (v := 0) dX12_wants_18 (by decide) ?_
    cases h
    exact go_zret dX12_wants_19 rfl (Or.inl rfl) hK
  · have h := go_ifn hc h
    refine go_iload_n dX12_wants_8 3 rfl ?_
    refine go_iconst (v := 0) dX12_wants_9 (by decide) ?_
    refine go_bipush (v := 99) dX12_wants_10 (by decide) ?_
    refine pp_callS (as := [.int a2, .int 0, .int 99]) (st := []) (rv := (some (.int (fX12_isIn a2 0 99)))) (μ1 := μ) (st1 := [.int (fX12_isIn a2 0 99)]) dX12_wants_12 ll_X12_63 (ctX12_isIn  rfl) rfl (Nat.le_of_ble_eq_true rfl) (Nat.le_of_ble_eq_true rfl) (go_Z_up w _) rfl rfl ?_
    refine go_if_ne 20 dX12_wants_15 (by decide) (fun hc => ?_) (fun hc => ?_)
    · have h := go_ifn hc h
      refine go_aload_n dX12_wants_20 0 rfl ?_
      refine pp_getR dX12_wants_21 ff_X12_7 (Or.inr ⟨_, rfl⟩) sh_401 rf_401_0 ?_
      refine go_bipush (v := 52) dX12_wants_24 (by decide) ?_
      refine go_bipush (v := 6) dX12_wants_26 (by decide) ?_
      refine go_iload_n dX12_wants_28 1 rfl ?_
      refine go_imul dX12_wants_29 ?_
      refine go_iadd dX12_wants_30 ?_
      refine go_iload_n dX12_wants_31 2 rfl ?_
      refine go_iadd dX12_wants_32 ?_
      refine go_iload_n dX12_wants_33 3 rfl ?_
      obtain ⟨hz2, h⟩ := go_chk_e h
      obtain ⟨μ1, hμ1, h⟩ := go_let_e h
      refine pp_ist dX12_wants_34 sh_402 hz2 hμ1 ?_
      refine go_iconst (v := 1) dX12_wants_35 (by decide) ?_
      cases h
      exact go_zret dX12_wants_36 rfl (Or.inr rfl) hK
    · have h := go_ifp hc h
      refine go_iconst (v := 0) dX12_wants_18 (by decide) ?_
      cases h
      exact go_zret dX12_wants_19 rfl (Or.inl rfl) hK
theorem ctX12_wants {w : go_Wd} {tx : Nat} {μ : PM} {a0 : Int32} {a1 : Int32} {a2 : Int32} {r : Int32} {μ1 : PM}  (h : fX12_wants μ a0 a1 a2 = some (r, μ1)) : Ct w 2 0 0 mtX12_wants [.ref 401, .int a0, .int a1, .int a2] (go_mk tx μ) (fun r' M' => r' = some (.int r) ∧ M' = go_mk tx μ1) :=
  go_entry rfl (by decide) (Nat.le_of_ble_eq_true rfl) (cmX12_wants w tx _ μ a0 a1 a2 _ h ⟨rfl, rfl⟩)
def fX12_favours (μ : PM) (a0 : Int32) (a1 : Int32) (a2 : Int32) : Option (Int32 × PM) :=
  (if (fX12_isPair a1 a0) = 0 then some ((0, μ)) else (if (fX12_isIn a2 0 99) = 0 then some ((0, μ)) else go_chk ((82 + (5 * a0)) + a1) 1792 <| go_let (pm_wi μ 402 (((82 + (5 * a0)) + a1) : Int32).toNatClampNeg a2) fun μ1 => some ((1, μ1))))
set_option maxRecDepth 20000 in
set_option maxHeartbeats 4000000 in
theorem cmX12_favours (w : go_Wd) (tx : Nat) (Q : Option Value → go_M → Prop) (μ : PM) (a0 : Int32) (a1 : Int32) (a2 : Int32) (out : Int32 × PM) (h : fX12_favours μ a0 a1 a2 = some out) (hK : Q (some (.int out.1)) (go_mk tx out.2)) : Go w 2 0 0 mtX12_favours 0 [(0, .ref 401), (1, .int a0), (2, .int a1), (3, .int a2)] [] (go_mk tx μ) (go_Z w Q) := by
  unfold fX12_favours at h
  refine go_iload_n dX12_favours_0 2 rfl ?_
  refine go_iload_n dX12_favours_1 1 rfl ?_
  refine pp_callS (as := [.int a1, .int a0]) (st := []) (rv := (some (.int (fX12_isPair a1 a0)))) (μ1 := μ) (st1 := [.int (fX12_isPair a1 a0)]) dX12_favours_2 ll_X12_400 (ctX12_isPair  rfl) rfl (Nat.le_of_ble_eq_true rfl) (Nat.le_of_ble_eq_true rfl) (go_Z_up w _) rfl rfl ?_
  refine go_if_eq 18 dX12_favours_5 (by decide) (fun hc => ?_) (fun hc => ?_)
  · have h := go_ifp hc h
    refine go_iconst (v := 0) dX12_favours_18 (by decide) ?_
    cases h
    exact go_zret dX12_favours_19 rfl (Or.inl rfl) hK
  · have h := go_ifn hc h
    refine go_iload_n dX12_favours_8 3 rfl ?_
    refine go_iconst (v := 0) dX12_favours_9 (by decide) ?_
    refine go_bipush (v := 99) dX12_favours_10 (by decide) ?_
    refine pp_callS (as := [.int a2, .int 0, .int 99]) (st := []) (rv := (some (.int (fX12_isIn a2 0 99)))) (μ1 := μ) (st1 := [.int (fX12_isIn a2 0 99)]) dX12_favours_12 ll_X12_63 (ctX12_isIn  rfl) rfl (Nat.le_of_ble_eq_true rfl) (Nat.le_of_ble_eq_true rfl) (go_Z_up w _) rfl rfl ?_
    refine go_if_ne 20 dX12_favours_15 (by decide) (fun hc => ?_) (fun hc => ?_)
    · have h := go_ifn hc h
      refine go_aload_n dX12_favours_20 0 rfl ?_
      refine pp_getR dX12_favours_21 ff_X12_7 (Or.inr ⟨_, rfl⟩) sh_401 rf_401_0 ?_
      refine go_bipush (v := 82) dX12_favours_24 (by decide) ?_
      refine go_iconst (v := 5) dX12_favours_26 (by decide) ?_
      refine go_iload_n dX12_favours_27 1 rfl ?_
      refine go_imul dX12_favours_28 ?_
      refine go_iadd dX12_favours_29 ?_
      refine go_iload_n dX12_favours_30 2 rfl ?_
      refine go_iadd dX12_favours_31 ?_
      refine go_iload_n dX12_favours_32 3 rfl ?_
      obtain ⟨hz2, h⟩ := go_chk_e h
      obtain ⟨μ1, hμ1, h⟩ := go_let_e h
      refine pp_ist dX12_favours_33 sh_402 hz2 hμ1 ?_
      refine go_iconst (v := 1) dX12_favours_34 (by decide) ?_
      cases h
      exact go_zret dX12_favours_35 rfl (Or.inr rfl) hK
    · have h := go_ifp hc h
      refine go_iconst (v := 0) dX12_favours_18 (by decide) ?_
      cases h
      exact go_zret dX12_favours_19 rfl (Or.inl rfl) hK
theorem ctX12_favours {w : go_Wd} {tx : Nat} {μ : PM} {a0 : Int32} {a1 : Int32} {a2 : Int32} {r : Int32} {μ1 : PM}  (h : fX12_favours μ a0 a1 a2 = some (r, μ1)) : Ct w 2 0 0 mtX12_favours [.ref 401, .int a0, .int a1, .int a2] (go_mk tx μ) (fun r' M' => r' = some (.int r) ∧ M' = go_mk tx μ1) :=
  go_entry rfl (by decide) (Nat.le_of_ble_eq_true rfl) (cmX12_favours w tx _ μ a0 a1 a2 _ h ⟨rfl, rfl⟩)
def fX12_wantOf (μ : PM) (a0 : Int32) (a1 : Int32) : Option (Int32) :=
  go_chk ((52 + (6 * a0)) + a1) 1792 <| some ((μ.1 402 (((52 + (6 * a0)) + a1) : Int32).toNatClampNeg))
set_option maxRecDepth 20000 in
set_option maxHeartbeats 4000000 in
theorem cmX12_wantOf (w : go_Wd) (tx : Nat) (Q : Option Value → go_M → Prop) (μ : PM) (a0 : Int32) (a1 : Int32) (out : Int32) (h : fX12_wantOf μ a0 a1 = some out) (hK : Q (some (.int out)) (go_mk tx μ)) : Go w 0 0 0 mtX12_wantOf 0 [(0, .ref 401), (1, .int a0), (2, .int a1)] [] (go_mk tx μ) (go_Z w Q) := by
  unfold fX12_wantOf at h
  refine go_aload_n dX12_wantOf_0 0 rfl ?_
  refine pp_getR dX12_wantOf_1 ff_X12_7 (Or.inr ⟨_, rfl⟩) sh_401 rf_401_0 ?_
  refine go_bipush (v := 52) dX12_wantOf_4 (by decide) ?_
  refine go_bipush (v := 6) dX12_wantOf_6 (by decide) ?_
  refine go_iload_n dX12_wantOf_8 1 rfl ?_
  refine go_imul dX12_wantOf_9 ?_
  refine go_iadd dX12_wantOf_10 ?_
  refine go_iload_n dX12_wantOf_11 2 rfl ?_
  refine go_iadd dX12_wantOf_12 ?_
  obtain ⟨hz1, h⟩ := go_chk_e h
  refine pp_ild dX12_wantOf_13 sh_402 hz1 ?_
  cases h
  exact go_iret dX12_wantOf_14 rfl hK
theorem ctX12_wantOf {w : go_Wd} {tx : Nat} {μ : PM} {a0 : Int32} {a1 : Int32} {r : Int32}  (h : fX12_wantOf μ a0 a1 = some r) : Ct w 0 0 0 mtX12_wantOf [.ref 401, .int a0, .int a1] (go_mk tx μ) (fun r' M' => r' = some (.int r) ∧ M' = go_mk tx μ) :=
  go_entry rfl (by decide) (Nat.le_of_ble_eq_true rfl) (cmX12_wantOf w tx _ μ a0 a1 _ h ⟨rfl, rfl⟩)
def fX12_wouldHave (μ : PM) (a0 : Int32) (a1 : Int32) (a2 : Int32) : Option (Int32) :=
  (fX12_wantOf μ a0 a1).bind fun q1 => (if q1 = 0 then some (0) else (if (fX12_isIn a2 0 5) = 0 then some (1) else (fX12_wantOf μ a0 a1).bind fun q2 => (fX12_wantOf μ a0 a2).bind fun q3 => (if q3 < q2 then some (1) else (fX12_wantOf μ a0 a1).bind fun q4 => (fX12_wantOf μ a0 a2).bind fun q5 => (if q4 = q5 then (if a2 ≤ a1 then some (0) else some (1)) else some (0)))))
set_option maxRecDepth 20000 in
set_option maxHeartbeats 4000000 in
theorem cmX12_wouldHave (w : go_Wd) (tx : Nat) (Q : Option Value → go_M → Prop) (μ : PM) (a0 : Int32) (a1 : Int32) (a2 : Int32) (out : Int32) (h : fX12_wouldHave μ a0 a1 a2 = some out) (hK : Q (some (.int out)) (go_mk tx μ)) : Go w 1 0 0 mtX12_wouldHave 0 [(0, .ref 401), (1, .int a0), (2, .int a1), (3, .int a2)] [] (go_mk tx μ) (go_Z w Q) := by
  unfold fX12_wouldHave at h
  refine go_aload_n dX12_wouldHave_0 0 rfl ?_
  refine go_iload_n dX12_wouldHave_1 1 rfl ?_
  refine go_iload_n dX12_wouldHave_2 2 rfl ?_
  obtain ⟨q1, hq1, h⟩ := go_bind h
  refine pp_callV (as := [.int a0, .int a1]) (st := []) (rv := (some (.int q1))) (μ1 := μ) (st1 := [.int q1]) dX12_wouldHave_3 ll_X12_403 sh_401 (by decide) rfl (ctX12_wantOf  hq1) rfl (Nat.le_of_ble_eq_true rfl) (Nat.le_of_ble_eq_true rfl) (go_Z_up w _) rfl rfl ?_
  refine go_if_ne 11 dX12_wouldHave_6 (by decide) (fun hc => ?_) (fun hc => ?_)
  · have h := go_ifn hc h
    refine go_iload_n dX12_wouldHave_11 3 rfl ?_
    refine go_iconst (v := 0) dX12_wouldHave_12 (by decide) ?_
    refine go_iconst (v := 5) dX12_wouldHave_13 (by decide) ?_
    refine pp_callS (as := [.int a2, .int 0, .int 5]) (st := []) (rv := (some (.int (fX12_isIn a2 0 5)))) (μ1 := μ) (st1 := [.int (fX12_isIn a2 0 5)]) dX12_wouldHave_14 ll_X12_63 (ctX12_isIn  rfl) rfl (Nat.le_of_ble_eq_true rfl) (Nat.le_of_ble_eq_true rfl) (go_Z_up w _) rfl rfl ?_
    refine go_if_ne 22 dX12_wouldHave_17 (by decide) (fun hc => ?_) (fun hc => ?_)
    · have h := go_ifn hc h
      refine go_aload_n dX12_wouldHave_22 0 rfl ?_
      refine go_iload_n dX12_wouldHave_23 1 rfl ?_
      refine go_iload_n dX12_wouldHave_24 2 rfl ?_
      obtain ⟨q2, hq2, h⟩ := go_bind h
      refine pp_callV (as := [.int a0, .int a1]) (st := []) (rv := (some (.int q2))) (μ1 := μ) (st1 := [.int q2]) dX12_wouldHave_25 ll_X12_403 sh_401 (by decide) rfl (ctX12_wantOf  hq2) rfl (Nat.le_of_ble_eq_true rfl) (Nat.le_of_ble_eq_true rfl) (go_Z_up w _) rfl rfl ?_
      refine go_aload_n dX12_wouldHave_28 0 rfl ?_
      refine go_iload_n dX12_wouldHave_29 1 rfl ?_
      refine go_iload_n dX12_wouldHave_30 3 rfl ?_
      obtain ⟨q3, hq3, h⟩ := go_bind h
      refine pp_callV (as := [.int a0, .int a2]) (st := [.int q2]) (rv := (some (.int q3))) (μ1 := μ) (st1 := [.int q3, .int q2]) dX12_wouldHave_31 ll_X12_403 sh_401 (by decide) rfl (ctX12_wantOf  hq3) rfl (Nat.le_of_ble_eq_true rfl) (Nat.le_of_ble_eq_true rfl) (go_Z_up w _) rfl rfl ?_
      refine go_icmp_gt 57 dX12_wouldHave_34 (by decide) (fun hc => ?_) (fun hc => ?_)
      · have h := go_ifp hc h
        refine go_iconst (v := 1) dX12_wouldHave_57 (by decide) ?_
        refine go_goto 62 dX12_wouldHave_58 (by decide) ?_
        cases h
        exact go_zret dX12_wouldHave_62 rfl (Or.inr rfl) hK
      · have h := go_ifn hc h
        refine go_aload_n dX12_wouldHave_37 0 rfl ?_
        refine go_iload_n dX12_wouldHave_38 1 rfl ?_
        refine go_iload_n dX12_wouldHave_39 2 rfl ?_
        obtain ⟨q4, hq4, h⟩ := go_bind h
        refine pp_callV (as := [.int a0, .int a1]) (st := []) (rv := (some (.int q4))) (μ1 := μ) (st1 := [.int q4]) dX12_wouldHave_40 ll_X12_403 sh_401 (by decide) rfl (ctX12_wantOf  hq4) rfl (Nat.le_of_ble_eq_true rfl) (Nat.le_of_ble_eq_true rfl) (go_Z_up w _) rfl rfl ?_
        refine go_aload_n dX12_wouldHave_43 0 rfl ?_
        refine go_iload_n dX12_wouldHave_44 1 rfl ?_
        refine go_iload_n dX12_wouldHave_45 3 rfl ?_
        obtain ⟨q5, hq5, h⟩ := go_bind h
        refine pp_callV (as := [.int a0, .int a2]) (st := [.int q4]) (rv := (some (.int q5))) (μ1 := μ) (st1 := [.int q5, .int q4]) dX12_wouldHave_46 ll_X12_403 sh_401 (by decide) rfl (ctX12_wantOf  hq5) rfl (Nat.le_of_ble_eq_true rfl) (Nat.le_of_ble_eq_true rfl) (go_Z_up w _) rfl rfl ?_
        refine go_icmp_ne 61 dX12_wouldHave_49 (by decide) (fun hc => ?_) (fun hc => ?_)
        · have h := go_ifn hc h
          refine go_iconst (v := 0) dX12_wouldHave_61 (by decide) ?_
          cases h
          exact go_zret dX12_wouldHave_62 rfl (Or.inl rfl) hK
        · have h := go_ifp hc h
          refine go_iload_n dX12_wouldHave_52 2 rfl ?_
          refine go_iload_n dX12_wouldHave_53 3 rfl ?_
          refine go_icmp_ge 61 dX12_wouldHave_54 (by decide) (fun hc => ?_) (fun hc => ?_)
          · have h := go_ifp hc h
            refine go_iconst (v := 0) dX12_wouldHave_61 (by decide) ?_
            cases h
            exact go_zret dX12_wouldHave_62 rfl (Or.inl rfl) hK
          · have h := go_ifn hc h
            refine go_iconst (v := 1) dX12_wouldHave_57 (by decide) ?_
            refine go_goto 62 dX12_wouldHave_58 (by decide) ?_
            cases h
            exact go_zret dX12_wouldHave_62 rfl (Or.inr rfl) hK
    · have h := go_ifp hc h
      refine go_iconst (v := 1) dX12_wouldHave_20 (by decide) ?_
      cases h
      exact go_zret dX12_wouldHave_21 rfl (Or.inr rfl) hK
  · have h := go_ifp hc h
    refine go_iconst (v := 0) dX12_wouldHave_9 (by decide) ?_
    cases h
    exact go_zret dX12_wouldHave_10 rfl (Or.inl rfl) hK
theorem ctX12_wouldHave {w : go_Wd} {tx : Nat} {μ : PM} {a0 : Int32} {a1 : Int32} {a2 : Int32} {r : Int32}  (h : fX12_wouldHave μ a0 a1 a2 = some r) : Ct w 1 0 0 mtX12_wouldHave [.ref 401, .int a0, .int a1, .int a2] (go_mk tx μ) (fun r' M' => r' = some (.int r) ∧ M' = go_mk tx μ) :=
  go_entry rfl (by decide) (Nat.le_of_ble_eq_true rfl) (cmX12_wouldHave w tx _ μ a0 a1 a2 _ h ⟨rfl, rfl⟩)
def fX12_wouldBe (μ : PM) (a0 : Int32) (a1 : Int32) (a2 : Int32) : Option (Int32) :=
  (if a2 = (-1) then some (1) else go_chk ((82 + (5 * a0)) + a1) 1792 <| go_chk ((82 + (5 * a0)) + a2) 1792 <| go_let (((μ.1 402 (((82 + (5 * a0)) + a1) : Int32).toNatClampNeg) - (μ.1 402 (((82 + (5 * a0)) + a2) : Int32).toNatClampNeg))) fun x3 => (if 0 < x3 then some (1) else (if x3 = 0 then (if a2 ≤ a1 then some (0) else some (1)) else some (0))))
set_option maxRecDepth 20000 in
set_option maxHeartbeats 4000000 in
theorem cmX12_wouldBe (w : go_Wd) (tx : Nat) (Q : Option Value → go_M → Prop) (μ : PM) (a0 : Int32) (a1 : Int32) (a2 : Int32) (out : Int32) (h : fX12_wouldBe μ a0 a1 a2 = some out) (hK : Q (some (.int out)) (go_mk tx μ)) : Go w 0 0 0 mtX12_wouldBe 0 [(0, .ref 401), (1, .int a0), (2, .int a1), (3, .int a2)] [] (go_mk tx μ) (go_Z w Q) := by
  unfold fX12_wouldBe at h
  refine go_iload_n dX12_wouldBe_0 3 rfl ?_
  refine go_iconst (v := (-1)) dX12_wouldBe_1 (by decide) ?_
  refine go_icmp_ne 7 dX12_wouldBe_2 (by decide) (fun hc => ?_) (fun hc => ?_)
  · have h := go_ifn hc h
    refine go_aload_n dX12_wouldBe_7 0 rfl ?_
    refine pp_getR dX12_wouldBe_8 ff_X12_7 (Or.inr ⟨_, rfl⟩) sh_401 rf_401_0 ?_
    refine go_bipush (v := 82) dX12_wouldBe_11 (by decide) ?_
    refine go_iconst (v := 5) dX12_wouldBe_13 (by decide) ?_
    refine go_iload_n dX12_wouldBe_14 1 rfl ?_
    refine go_imul dX12_wouldBe_15 ?_
    refine go_iadd dX12_wouldBe_16 ?_
    refine go_iload_n dX12_wouldBe_17 2 rfl ?_
    refine go_iadd dX12_wouldBe_18 ?_
    obtain ⟨hz1, h⟩ := go_chk_e h
    refine pp_ild dX12_wouldBe_19 sh_402 hz1 ?_
    refine go_aload_n dX12_wouldBe_20 0 rfl ?_
    refine pp_getR dX12_wouldBe_21 ff_X12_7 (Or.inr ⟨_, rfl⟩) sh_401 rf_401_0 ?_
    refine go_bipush (v := 82) dX12_wouldBe_24 (by decide) ?_
    refine go_iconst (v := 5) dX12_wouldBe_26 (by decide) ?_
    refine go_iload_n dX12_wouldBe_27 1 rfl ?_
    refine go_imul dX12_wouldBe_28 ?_
    refine go_iadd dX12_wouldBe_29 ?_
    refine go_iload_n dX12_wouldBe_30 3 rfl ?_
    refine go_iadd dX12_wouldBe_31 ?_
    obtain ⟨hz2, h⟩ := go_chk_e h
    refine pp_ild dX12_wouldBe_32 sh_402 hz2 ?_
    refine go_isub dX12_wouldBe_33 ?_
    obtain ⟨x3, hx3, h⟩ := go_let_e h
    refine go_top hx3 ?_
    refine go_istore dX12_wouldBe_34 (by decide) rfl ?_
    show Go w 0 0 0 mtX12_wouldBe 36 [(4, .int x3), (0, .ref 401), (1, .int a0), (2, .int a1), (3, .int a2)] [] (go_mk tx μ) (go_Z w Q)
    refine go_iload dX12_wouldBe_36 0 rfl ?_
    refine go_if_gt 51 dX12_wouldBe_38 (by decide) (fun hc => ?_) (fun hc => ?_)
    · have h := go_ifp hc h
      refine go_iconst (v := 1) dX12_wouldBe_51 (by decide) ?_
      refine go_goto 56 dX12_wouldBe_52 (by decide) ?_
      cases h
      exact go_zret dX12_wouldBe_56 rfl (Or.inr rfl) hK
    · have h := go_ifn hc h
      refine go_iload dX12_wouldBe_41 0 rfl ?_
      refine go_if_ne 55 dX12_wouldBe_43 (by decide) (fun hc => ?_) (fun hc => ?_)
      · have h := go_ifn hc h
        refine go_iconst (v := 0) dX12_wouldBe_55 (by decide) ?_
        cases h
        exact go_zret dX12_wouldBe_56 rfl (Or.inl rfl) hK
      · have h := go_ifp hc h
        refine go_iload_n dX12_wouldBe_46 3 rfl ?_
        refine go_iload_n dX12_wouldBe_47 4 rfl ?_
        refine go_icmp_ge 55 dX12_wouldBe_48 (by decide) (fun hc => ?_) (fun hc => ?_)
        · have h := go_ifp hc h
          refine go_iconst (v := 0) dX12_wouldBe_55 (by decide) ?_
          cases h
          exact go_zret dX12_wouldBe_56 rfl (Or.inl rfl) hK
        · have h := go_ifn hc h
          refine go_iconst (v := 1) dX12_wouldBe_51 (by decide) ?_
          refine go_goto 56 dX12_wouldBe_52 (by decide) ?_
          cases h
          exact go_zret dX12_wouldBe_56 rfl (Or.inr rfl) hK
  · have h := go_ifp hc h
    refine go_iconst (v := 1) dX12_wouldBe_5 (by decide) ?_
    cases h
    exact go_zret dX12_wouldBe_6 rfl (Or.inr rfl) hK
theorem ctX12_wouldBe {w : go_Wd} {tx : Nat} {μ : PM} {a0 : Int32} {a1 : Int32} {a2 : Int32} {r : Int32}  (h : fX12_wouldBe μ a0 a1 a2 = some r) : Ct w 0 0 0 mtX12_wouldBe [.ref 401, .int a0, .int a1, .int a2] (go_mk tx μ) (fun r' M' => r' = some (.int r) ∧ M' = go_mk tx μ) :=
  go_entry rfl (by decide) (Nat.le_of_ble_eq_true rfl) (cmX12_wouldBe w tx _ μ a0 a1 a2 _ h ⟨rfl, rfl⟩)
def lbX12_layWith_2   (v1 : Int32) (μ : PM) : Option ((Int32 × PM) ⊕ ((PM) ⊕ (Int32 × PM))) :=
  (if 6 ≤ v1 then some (.inr (.inl μ)) else go_chk v1 6 <| go_let (pm_wi μ 412 v1.toNatClampNeg (-1)) fun μ1 => some (.inl ((v1 + 1), μ1)))
def lbX12_layWith_23   (v1 : Int32) (μ : PM) : Option ((Int32 × PM) ⊕ (Int32 × PM)) :=
  (if (μ.1 402 1) ≤ v1 then some (.inr ((1, μ))) else go_chk v1 5 <| (if (fX12_isName μ (μ.1 411 v1.toNatClampNeg)) = 0 then some (.inl ((v1 + 1), μ)) else go_chk v1 5 <| go_chk (μ.1 411 v1.toNatClampNeg) 6 <| (if (μ.1 412 ((μ.1 411 v1.toNatClampNeg) : Int32).toNatClampNeg) = (-1) then go_chk v1 5 <| go_chk (μ.1 411 v1.toNatClampNeg) 6 <| go_let (pm_wi μ 412 ((μ.1 411 v1.toNatClampNeg) : Int32).toNatClampNeg v1) fun μ9 => some (.inl ((v1 + 1), μ9)) else some (.inr ((0, μ))))))
def fX12_layWith (μ : PM)  : Option (Int32 × PM) :=
  ((lp (fun s => lbX12_layWith_2 s.1 s.2) go_fuel (0, μ)).bind fun ρ3 => go_cs ρ3 (fun e4 => ((lp (fun s => lbX12_layWith_23 s.1 s.2) go_fuel (0, e4)).bind fun ρ11 => some ρ11)) (fun y => some y))
def ggX12_layWith_2 (w : go_Wd) (tx : Nat) (Q : Option Value → go_M → Prop)   (s : Int32 × PM) : Prop := Go w 2 0 0 mtX12_layWith 2 [(0, .ref 401), (1, .int s.1)] [] (go_mk tx s.2) (go_Z w Q)
def ggX12_layWith_23 (w : go_Wd) (tx : Nat) (Q : Option Value → go_M → Prop)   (s : Int32 × PM) : Prop := Go w 2 0 0 mtX12_layWith 23 [(0, .ref 401), (1, .int s.1)] [] (go_mk tx s.2) (go_Z w Q)
def eeX12_layWith_2 (w : go_Wd) (tx : Nat) (Q : Option Value → go_M → Prop)   : (PM) ⊕ (Int32 × PM) → Prop
  | .inl e => Go w 2 0 0 mtX12_layWith 21 [(0, .ref 401)] [] (go_mk tx e) (go_Z w Q)
  | .inr y => Q (some (.int y.1)) (go_mk tx y.2)
def eeX12_layWith_23 (w : go_Wd) (tx : Nat) (Q : Option Value → go_M → Prop)   (y : Int32 × PM) : Prop := Q (some (.int y.1)) (go_mk tx y.2)
set_option maxRecDepth 20000 in
set_option maxHeartbeats 4000000 in
theorem lqX12_layWith_2 (w : go_Wd) (tx : Nat) (Q : Option Value → go_M → Prop)    (v1 : Int32) (μ : PM) (out : (Int32 × PM) ⊕ ((PM) ⊕ (Int32 × PM))) (h : lbX12_layWith_2  v1 μ = some out) (hK : go_out (ggX12_layWith_2 w tx Q  ) (eeX12_layWith_2 w tx Q  ) out) : ggX12_layWith_2 w tx Q   (v1, μ) := by
  unfold lbX12_layWith_2 at h
  show Go w 2 0 0 mtX12_layWith 2 [(0, .ref 401), (1, .int v1)] [] (go_mk tx μ) (go_Z w Q)
  refine go_iload_n dX12_layWith_2 1 rfl ?_
  refine go_bipush (v := 6) dX12_layWith_3 (by decide) ?_
  refine go_icmp_ge 21 dX12_layWith_5 (by decide) (fun hc => ?_) (fun hc => ?_)
  · have h := go_ifp hc h
    cases h
    have hK : Go w 2 0 0 mtX12_layWith 21 [(0, .ref 401)] [] (go_mk tx μ) (go_Z w Q) := hK
    exact go_pick [0] rfl hK
  · have h := go_ifn hc h
    refine go_aload_n dX12_layWith_8 0 rfl ?_
    refine pp_getR dX12_layWith_9 ff_X12_53 (Or.inr ⟨_, rfl⟩) sh_401 rf_401_27 ?_
    refine go_iload_n dX12_layWith_12 1 rfl ?_
    refine go_iconst (v := (-1)) dX12_layWith_13 (by decide) ?_
    obtain ⟨hz2, h⟩ := go_chk_e h
    obtain ⟨μ1, hμ1, h⟩ := go_let_e h
    refine pp_ist dX12_layWith_14 sh_412 hz2 hμ1 ?_
    refine go_iinc (v := (v1 + 1)) dX12_layWith_15 1 rfl rfl (by decide) rfl ?_
    show Go w 2 0 0 mtX12_layWith 18 [(1, .int (v1 + 1)), (0, .ref 401)] [] (go_mk tx μ1) (go_Z w Q)
    refine go_goto 2 dX12_layWith_18 (by decide) ?_
    cases h
    have hK : Go w 2 0 0 mtX12_layWith 2 [(0, .ref 401), (1, .int (v1 + 1))] [] (go_mk tx μ1) (go_Z w Q) := hK
    exact go_pick [1, 0] rfl hK
set_option maxRecDepth 20000 in
set_option maxHeartbeats 4000000 in
theorem lqX12_layWith_23 (w : go_Wd) (tx : Nat) (Q : Option Value → go_M → Prop)    (v1 : Int32) (μ : PM) (out : (Int32 × PM) ⊕ (Int32 × PM)) (h : lbX12_layWith_23  v1 μ = some out) (hK : go_out (ggX12_layWith_23 w tx Q  ) (eeX12_layWith_23 w tx Q  ) out) : ggX12_layWith_23 w tx Q   (v1, μ) := by
  unfold lbX12_layWith_23 at h
  show Go w 2 0 0 mtX12_layWith 23 [(0, .ref 401), (1, .int v1)] [] (go_mk tx μ) (go_Z w Q)
  refine go_iload_n dX12_layWith_23 1 rfl ?_
  refine go_aload_n dX12_layWith_24 0 rfl ?_
  refine pp_getR dX12_layWith_25 ff_X12_7 (Or.inr ⟨_, rfl⟩) sh_401 rf_401_0 ?_
  refine go_iconst (v := 1) dX12_layWith_28 (by decide) ?_
  refine pp_ildc (q := 1) dX12_layWith_29 sh_402 (by decide) ?_
  refine go_icmp_ge 84 dX12_layWith_30 (by decide) (fun hc => ?_) (fun hc => ?_)
  · have h := go_ifp hc h
    refine go_iconst (v := 1) dX12_layWith_84 (by decide) ?_
    cases h
    exact go_zret dX12_layWith_85 rfl (Or.inr rfl) hK
  · have h := go_ifn hc h
    refine go_aload_n dX12_layWith_33 0 rfl ?_
    refine go_aload_n dX12_layWith_34 0 rfl ?_
    refine pp_getR dX12_layWith_35 ff_X12_50 (Or.inr ⟨_, rfl⟩) sh_401 rf_401_26 ?_
    refine go_iload_n dX12_layWith_38 1 rfl ?_
    obtain ⟨hz5, h⟩ := go_chk_e h
    refine pp_ild dX12_layWith_39 sh_411 hz5 ?_
    refine pp_callV (as := [.int (μ.1 411 v1.toNatClampNeg)]) (st := []) (rv := (some (.int (fX12_isName μ (μ.1 411 v1.toNatClampNeg))))) (μ1 := μ) (st1 := [.int (fX12_isName μ (μ.1 411 v1.toNatClampNeg))]) dX12_layWith_40 ll_X12_261 sh_401 (by decide) rfl (ctX12_isName  rfl) rfl (Nat.le_of_ble_eq_true rfl) (Nat.le_of_ble_eq_true rfl) (go_Z_up w _) rfl rfl ?_
    refine go_if_ne 49 dX12_layWith_43 (by decide) (fun hc => ?_) (fun hc => ?_)
    · have h := go_ifn hc h
      refine go_aload_n dX12_layWith_49 0 rfl ?_
      refine pp_getR dX12_layWith_50 ff_X12_53 (Or.inr ⟨_, rfl⟩) sh_401 rf_401_27 ?_
      refine go_aload_n dX12_layWith_53 0 rfl ?_
      refine pp_getR dX12_layWith_54 ff_X12_50 (Or.inr ⟨_, rfl⟩) sh_401 rf_401_26 ?_
      refine go_iload_n dX12_layWith_57 1 rfl ?_
      obtain ⟨hz6, h⟩ := go_chk_e h
      refine pp_ild dX12_layWith_58 sh_411 hz6 ?_
      obtain ⟨hz7, h⟩ := go_chk_e h
      refine pp_ild dX12_layWith_59 sh_412 hz7 ?_
      refine go_iconst (v := (-1)) dX12_layWith_60 (by decide) ?_
      refine go_icmp_eq 66 dX12_layWith_61 (by decide) (fun hc => ?_) (fun hc => ?_)
      · have h := go_ifp hc h
        refine go_aload_n dX12_layWith_66 0 rfl ?_
        refine pp_getR dX12_layWith_67 ff_X12_53 (Or.inr ⟨_, rfl⟩) sh_401 rf_401_27 ?_
        refine go_aload_n dX12_layWith_70 0 rfl ?_
        refine pp_getR dX12_layWith_71 ff_X12_50 (Or.inr ⟨_, rfl⟩) sh_401 rf_401_26 ?_
        refine go_iload_n dX12_layWith_74 1 rfl ?_
        obtain ⟨hz8, h⟩ := go_chk_e h
        refine pp_ild dX12_layWith_75 sh_411 hz8 ?_
        refine go_iload_n dX12_layWith_76 1 rfl ?_
        obtain ⟨hz10, h⟩ := go_chk_e h
        obtain ⟨μ9, hμ9, h⟩ := go_let_e h
        refine pp_ist dX12_layWith_77 sh_412 hz10 hμ9 ?_
        refine go_iinc (v := (v1 + 1)) dX12_layWith_78 1 rfl rfl (by decide) rfl ?_
        show Go w 2 0 0 mtX12_layWith 81 [(1, .int (v1 + 1)), (0, .ref 401)] [] (go_mk tx μ9) (go_Z w Q)
        refine go_goto 23 dX12_layWith_81 (by decide) ?_
        cases h
        have hK : Go w 2 0 0 mtX12_layWith 23 [(0, .ref 401), (1, .int (v1 + 1))] [] (go_mk tx μ9) (go_Z w Q) := hK
        exact go_pick [1, 0] rfl hK
      · have h := go_ifn hc h
        refine go_iconst (v := 0) dX12_layWith_64 (by decide) ?_
        cases h
        exact go_zret dX12_layWith_65 rfl (Or.inl rfl) hK
    · have h := go_ifp hc h
      refine go_goto 78 dX12_layWith_46 (by decide) ?_
      refine go_iinc (v := (v1 + 1)) dX12_layWith_78 1 rfl rfl (by decide) rfl ?_
      show Go w 2 0 0 mtX12_layWith 81 [(1, .int (v1 + 1)), (0, .ref 401)] [] (go_mk tx μ) (go_Z w Q)
      refine go_goto 23 dX12_layWith_81 (by decide) ?_
      cases h
      have hK : Go w 2 0 0 mtX12_layWith 23 [(0, .ref 401), (1, .int (v1 + 1))] [] (go_mk tx μ) (go_Z w Q) := hK
      exact go_pick [1, 0] rfl hK
set_option maxRecDepth 20000 in
set_option maxHeartbeats 4000000 in
theorem cmX12_layWith (w : go_Wd) (tx : Nat) (Q : Option Value → go_M → Prop) (μ : PM)  (out : Int32 × PM) (h : fX12_layWith μ = some out) (hK : Q (some (.int out.1)) (go_mk tx out.2)) : Go w 2 0 0 mtX12_layWith 0 [(0, .ref 401)] [] (go_mk tx μ) (go_Z w Q) := by
  unfold fX12_layWith at h
  refine go_iconst (v := 0) dX12_layWith_0 (by decide) ?_
  refine go_istore_n dX12_layWith_1 (by decide) rfl ?_
  show Go w 2 0 0 mtX12_layWith 2 [(1, .int 0), (0, .ref 401)] [] (go_mk tx μ) (go_Z w Q)
  obtain ⟨ρ3, hρ3, h⟩ := go_bind h
  refine go_pick [1, 0] rfl ?_
  refine go_lp (G := ggX12_layWith_2 w tx Q  ) (E := eeX12_layWith_2 w tx Q  ) (fun s out h hK => lqX12_layWith_2 w tx Q    s.1 s.2 out h hK) go_fuel (0, μ) ρ3 hρ3 ?_
  rcases ρ3 with e4 | y
  · have h := go_csl h
    show Go w 2 0 0 mtX12_layWith 21 [(0, .ref 401)] [] (go_mk tx e4) (go_Z w Q)
    refine go_iconst (v := 0) dX12_layWith_21 (by decide) ?_
    refine go_istore_n dX12_layWith_22 (by decide) rfl ?_
    show Go w 2 0 0 mtX12_layWith 23 [(1, .int 0), (0, .ref 401)] [] (go_mk tx e4) (go_Z w Q)
    obtain ⟨ρ11, hρ11, h⟩ := go_bind h
    refine go_pick [1, 0] rfl ?_
    refine go_lp (G := ggX12_layWith_23 w tx Q  ) (E := eeX12_layWith_23 w tx Q  ) (fun s out h hK => lqX12_layWith_23 w tx Q    s.1 s.2 out h hK) go_fuel (0, e4) ρ11 hρ11 ?_
    cases h
    exact hK
  · have h := go_csr h
    cases h
    exact hK
theorem ctX12_layWith {w : go_Wd} {tx : Nat} {μ : PM}  {r : Int32} {μ1 : PM}  (h : fX12_layWith μ = some (r, μ1)) : Ct w 2 0 0 mtX12_layWith [.ref 401] (go_mk tx μ) (fun r' M' => r' = some (.int r) ∧ M' = go_mk tx μ1) :=
  go_entry rfl (by decide) (Nat.le_of_ble_eq_true rfl) (cmX12_layWith w tx _ μ  _ h ⟨rfl, rfl⟩)
def jjX12_pairsThatWould_72_16 (μ : PM)  (v2 : Int32) (v3 : Int32) (s0 : Int32) (s1 : Int32) : Option ((Int32 × Int32) ⊕ ((Int32) ⊕ ((Int32 × Int32) ⊕ (Int32)))) :=
  some (.inl ((s0 + s1), (v3 + 1)))
def jjX12_pairsThatWould_71_16 (μ : PM)  (v2 : Int32) (v3 : Int32) (s0 : Int32) : Option ((Int32 × Int32) ⊕ ((Int32) ⊕ ((Int32 × Int32) ⊕ (Int32)))) :=
  jjX12_pairsThatWould_72_16 μ v2 v3 s0 0
def lbX12_pairsThatWould_16 (μ : PM)  (v2 : Int32) (v1 : Int32) (v3 : Int32) : Option ((Int32 × Int32) ⊕ ((Int32) ⊕ ((Int32 × Int32) ⊕ (Int32)))) :=
  (if (μ.1 402 0) ≤ v3 then some (.inr (.inl v1)) else go_chk v2 5 <| (if (μ.1 411 v2.toNatClampNeg) = v3 then jjX12_pairsThatWould_71_16 μ v2 v3 v1 else go_chk v2 5 <| (fX12_wouldHave μ v2 v3 (μ.1 411 v2.toNatClampNeg)).bind fun q3 => (if q3 = 0 then jjX12_pairsThatWould_71_16 μ v2 v3 v1 else go_chk v3 6 <| (fX12_wouldBe μ v3 v2 (μ.1 412 v3.toNatClampNeg)).bind fun q5 => (if q5 = 0 then jjX12_pairsThatWould_71_16 μ v2 v3 v1 else jjX12_pairsThatWould_72_16 μ v2 v3 v1 1))))
def lbX12_pairsThatWould_4 (μ : PM)   (v1 : Int32) (v2 : Int32) : Option ((Int32 × Int32) ⊕ (Int32)) :=
  (if (μ.1 402 1) ≤ v2 then some (.inr (v1)) else ((lp (fun s => lbX12_pairsThatWould_16 μ v2 s.1 s.2) go_fuel (v1, 0)).bind fun ρ6 => go_cs ρ6 (fun e7 => some (.inl (e7, (v2 + 1)))) (fun y => some y)))
def fX12_pairsThatWould (μ : PM)  : Option (Int32) :=
  ((lp (fun s => lbX12_pairsThatWould_4 μ s.1 s.2) go_fuel (0, 0)).bind fun ρ8 => some ρ8)
def ggX12_pairsThatWould_16 (w : go_Wd) (tx : Nat) (Q : Option Value → go_M → Prop) (μ : PM)  (v2 : Int32) (s : Int32 × Int32) : Prop := Go w 2 0 0 mtX12_pairsThatWould 16 [(0, .ref 401), (1, .int s.1), (2, .int v2), (3, .int s.2)] [] (go_mk tx μ) (go_Z w Q)
def ggX12_pairsThatWould_4 (w : go_Wd) (tx : Nat) (Q : Option Value → go_M → Prop) (μ : PM)   (s : Int32 × Int32) : Prop := Go w 2 0 0 mtX12_pairsThatWould 4 [(0, .ref 401), (1, .int s.1), (2, .int s.2)] [] (go_mk tx μ) (go_Z w Q)
def eeX12_pairsThatWould_4 (w : go_Wd) (tx : Nat) (Q : Option Value → go_M → Prop) (μ : PM)   (y : Int32) : Prop := Q (some (.int y)) (go_mk tx μ)
def eeX12_pairsThatWould_16 (w : go_Wd) (tx : Nat) (Q : Option Value → go_M → Prop) (μ : PM)  (v2 : Int32) : (Int32) ⊕ ((Int32 × Int32) ⊕ (Int32)) → Prop
  | .inl e => Go w 2 0 0 mtX12_pairsThatWould 80 [(0, .ref 401), (1, .int e), (2, .int v2)] [] (go_mk tx μ) (go_Z w Q)
  | .inr y => go_out (ggX12_pairsThatWould_4 w tx Q μ  ) (eeX12_pairsThatWould_4 w tx Q μ  ) y
set_option maxRecDepth 20000 in
set_option maxHeartbeats 4000000 in
theorem jqX12_pairsThatWould_72_16 (w : go_Wd) (tx : Nat) (Q : Option Value → go_M → Prop) (μ : PM)  (v2 : Int32) (v3 : Int32)  (s0 : Int32) (s1 : Int32) (hs1 : s1 = 0 ∨ s1 = 1) (out : (Int32 × Int32) ⊕ ((Int32) ⊕ ((Int32 × Int32) ⊕ (Int32)))) (h : jjX12_pairsThatWould_72_16 μ v2 v3 s0 s1 = some out) (hK : go_out (ggX12_pairsThatWould_16 w tx Q μ  v2) (eeX12_pairsThatWould_16 w tx Q μ  v2) out) : Go w 2 0 0 mtX12_pairsThatWould 72 [(0, .ref 401), (2, .int v2), (3, .int v3)] [.int s1, .int s0] (go_mk tx μ) (go_Z w Q) := by
  unfold jjX12_pairsThatWould_72_16 at h
  refine go_iadd dX12_pairsThatWould_72 ?_
  refine go_istore_n dX12_pairsThatWould_73 (by decide) rfl ?_
  show Go w 2 0 0 mtX12_pairsThatWould 74 [(1, .int (s0 + s1)), (0, .ref 401), (2, .int v2), (3, .int v3)] [] (go_mk tx μ) (go_Z w Q)
  refine go_iinc (v := (v3 + 1)) dX12_pairsThatWould_74 3 rfl rfl (by decide) rfl ?_
  show Go w 2 0 0 mtX12_pairsThatWould 77 [(3, .int (v3 + 1)), (1, .int (s0 + s1)), (0, .ref 401), (2, .int v2)] [] (go_mk tx μ) (go_Z w Q)
  refine go_goto 16 dX12_pairsThatWould_77 (by decide) ?_
  cases h
  have hK : Go w 2 0 0 mtX12_pairsThatWould 16 [(0, .ref 401), (1, .int (s0 + s1)), (2, .int v2), (3, .int (v3 + 1))] [] (go_mk tx μ) (go_Z w Q) := hK
  exact go_pick [2, 1, 3, 0] rfl hK
set_option maxRecDepth 20000 in
set_option maxHeartbeats 4000000 in
theorem jqX12_pairsThatWould_71_16 (w : go_Wd) (tx : Nat) (Q : Option Value → go_M → Prop) (μ : PM)  (v2 : Int32) (v3 : Int32)  (s0 : Int32)  (out : (Int32 × Int32) ⊕ ((Int32) ⊕ ((Int32 × Int32) ⊕ (Int32)))) (h : jjX12_pairsThatWould_71_16 μ v2 v3 s0 = some out) (hK : go_out (ggX12_pairsThatWould_16 w tx Q μ  v2) (eeX12_pairsThatWould_16 w tx Q μ  v2) out) : Go w 2 0 0 mtX12_pairsThatWould 71 [(0, .ref 401), (2, .int v2), (3, .int v3)] [.int s0] (go_mk tx μ) (go_Z w Q) := by
  unfold jjX12_pairsThatWould_71_16 at h
  refine go_iconst (v := 0) dX12_pairsThatWould_71 (by decide) ?_
  refine go_pick [0, 1, 2] rfl ?_
  exact jqX12_pairsThatWould_72_16 w tx Q μ  v2 v3  s0 0 (Or.inl rfl) _ h hK
set_option maxRecDepth 20000 in
set_option maxHeartbeats 4000000 in
theorem lqX12_pairsThatWould_16 (w : go_Wd) (tx : Nat) (Q : Option Value → go_M → Prop) (μ : PM)  (v2 : Int32)  (v1 : Int32) (v3 : Int32) (out : (Int32 × Int32) ⊕ ((Int32) ⊕ ((Int32 × Int32) ⊕ (Int32)))) (h : lbX12_pairsThatWould_16 μ v2 v1 v3 = some out) (hK : go_out (ggX12_pairsThatWould_16 w tx Q μ  v2) (eeX12_pairsThatWould_16 w tx Q μ  v2) out) : ggX12_pairsThatWould_16 w tx Q μ  v2 (v1, v3) := by
  unfold lbX12_pairsThatWould_16 at h
  show Go w 2 0 0 mtX12_pairsThatWould 16 [(0, .ref 401), (1, .int v1), (2, .int v2), (3, .int v3)] [] (go_mk tx μ) (go_Z w Q)
  refine go_iload_n dX12_pairsThatWould_16 3 rfl ?_
  refine go_aload_n dX12_pairsThatWould_17 0 rfl ?_
  refine pp_getR dX12_pairsThatWould_18 ff_X12_7 (Or.inr ⟨_, rfl⟩) sh_401 rf_401_0 ?_
  refine go_iconst (v := 0) dX12_pairsThatWould_21 (by decide) ?_
  refine pp_ildc (q := 0) dX12_pairsThatWould_22 sh_402 (by decide) ?_
  refine go_icmp_ge 80 dX12_pairsThatWould_23 (by decide) (fun hc => ?_) (fun hc => ?_)
  · have h := go_ifp hc h
    cases h
    have hK : Go w 2 0 0 mtX12_pairsThatWould 80 [(0, .ref 401), (1, .int v1), (2, .int v2)] [] (go_mk tx μ) (go_Z w Q) := hK
    exact go_pick [0, 1, 2] rfl hK
  · have h := go_ifn hc h
    refine go_iload_n dX12_pairsThatWould_26 1 rfl ?_
    refine go_aload_n dX12_pairsThatWould_27 0 rfl ?_
    refine pp_getR dX12_pairsThatWould_28 ff_X12_50 (Or.inr ⟨_, rfl⟩) sh_401 rf_401_26 ?_
    refine go_iload_n dX12_pairsThatWould_31 2 rfl ?_
    obtain ⟨hz1, h⟩ := go_chk_e h
    refine pp_ild dX12_pairsThatWould_32 sh_411 hz1 ?_
    refine go_iload_n dX12_pairsThatWould_33 3 rfl ?_
    refine go_icmp_eq 71 dX12_pairsThatWould_34 (by decide) (fun hc => ?_) (fun hc => ?_)
    · have h := go_ifp hc h
      refine go_pick [0, 2, 3] rfl ?_
      exact jqX12_pairsThatWould_71_16 w tx Q μ  v2 v3  v1  _ h hK
    · have h := go_ifn hc h
      refine go_aload_n dX12_pairsThatWould_37 0 rfl ?_
      refine go_iload_n dX12_pairsThatWould_38 2 rfl ?_
      refine go_iload_n dX12_pairsThatWould_39 3 rfl ?_
      refine go_aload_n dX12_pairsThatWould_40 0 rfl ?_
      refine pp_getR dX12_pairsThatWould_41 ff_X12_50 (Or.inr ⟨_, rfl⟩) sh_401 rf_401_26 ?_
      refine go_iload_n dX12_pairsThatWould_44 2 rfl ?_
      obtain ⟨hz2, h⟩ := go_chk_e h
      refine pp_ild dX12_pairsThatWould_45 sh_411 hz2 ?_
      obtain ⟨q3, hq3, h⟩ := go_bind h
      refine pp_callV (as := [.int v2, .int v3, .int (μ.1 411 v2.toNatClampNeg)]) (st := [.int v1]) (rv := (some (.int q3))) (μ1 := μ) (st1 := [.int q3, .int v1]) dX12_pairsThatWould_46 ll_X12_406 sh_401 (by decide) rfl (ctX12_wouldHave  hq3) rfl (Nat.le_of_ble_eq_true rfl) (Nat.le_of_ble_eq_true rfl) (go_Z_up w _) rfl rfl ?_
      refine go_if_eq 71 dX12_pairsThatWould_49 (by decide) (fun hc => ?_) (fun hc => ?_)
      · have h := go_ifp hc h
        refine go_pick [0, 2, 3] rfl ?_
        exact jqX12_pairsThatWould_71_16 w tx Q μ  v2 v3  v1  _ h hK
      · have h := go_ifn hc h
        refine go_aload_n dX12_pairsThatWould_52 0 rfl ?_
        refine go_iload_n dX12_pairsThatWould_53 3 rfl ?_
        refine go_iload_n dX12_pairsThatWould_54 2 rfl ?_
        refine go_aload_n dX12_pairsThatWould_55 0 rfl ?_
        refine pp_getR dX12_pairsThatWould_56 ff_X12_53 (Or.inr ⟨_, rfl⟩) sh_401 rf_401_27 ?_
        refine go_iload_n dX12_pairsThatWould_59 3 rfl ?_
        obtain ⟨hz4, h⟩ := go_chk_e h
        refine pp_ild dX12_pairsThatWould_60 sh_412 hz4 ?_
        obtain ⟨q5, hq5, h⟩ := go_bind h
        refine pp_callV (as := [.int v3, .int v2, .int (μ.1 412 v3.toNatClampNeg)]) (st := [.int v1]) (rv := (some (.int q5))) (μ1 := μ) (st1 := [.int q5, .int v1]) dX12_pairsThatWould_61 ll_X12_409 sh_401 (by decide) rfl (ctX12_wouldBe  hq5) rfl (Nat.le_of_ble_eq_true rfl) (Nat.le_of_ble_eq_true rfl) (go_Z_up w _) rfl rfl ?_
        refine go_if_eq 71 dX12_pairsThatWould_64 (by decide) (fun hc => ?_) (fun hc => ?_)
        · have h := go_ifp hc h
          refine go_pick [0, 2, 3] rfl ?_
          exact jqX12_pairsThatWould_71_16 w tx Q μ  v2 v3  v1  _ h hK
        · have h := go_ifn hc h
          refine go_iconst (v := 1) dX12_pairsThatWould_67 (by decide) ?_
          refine go_goto 72 dX12_pairsThatWould_68 (by decide) ?_
          refine go_pick [0, 2, 3] rfl ?_
          exact jqX12_pairsThatWould_72_16 w tx Q μ  v2 v3  v1 1 (Or.inr rfl) _ h hK
set_option maxRecDepth 20000 in
set_option maxHeartbeats 4000000 in
theorem lqX12_pairsThatWould_4 (w : go_Wd) (tx : Nat) (Q : Option Value → go_M → Prop) (μ : PM)    (v1 : Int32) (v2 : Int32) (out : (Int32 × Int32) ⊕ (Int32)) (h : lbX12_pairsThatWould_4 μ  v1 v2 = some out) (hK : go_out (ggX12_pairsThatWould_4 w tx Q μ  ) (eeX12_pairsThatWould_4 w tx Q μ  ) out) : ggX12_pairsThatWould_4 w tx Q μ   (v1, v2) := by
  unfold lbX12_pairsThatWould_4 at h
  show Go w 2 0 0 mtX12_pairsThatWould 4 [(0, .ref 401), (1, .int v1), (2, .int v2)] [] (go_mk tx μ) (go_Z w Q)
  refine go_iload_n dX12_pairsThatWould_4 2 rfl ?_
  refine go_aload_n dX12_pairsThatWould_5 0 rfl ?_
  refine pp_getR dX12_pairsThatWould_6 ff_X12_7 (Or.inr ⟨_, rfl⟩) sh_401 rf_401_0 ?_
  refine go_iconst (v := 1) dX12_pairsThatWould_9 (by decide) ?_
  refine pp_ildc (q := 1) dX12_pairsThatWould_10 sh_402 (by decide) ?_
  refine go_icmp_ge 86 dX12_pairsThatWould_11 (by decide) (fun hc => ?_) (fun hc => ?_)
  · have h := go_ifp hc h
    refine go_iload_n dX12_pairsThatWould_86 1 rfl ?_
    cases h
    exact go_iret dX12_pairsThatWould_87 rfl hK
  · have h := go_ifn hc h
    refine go_iconst (v := 0) dX12_pairsThatWould_14 (by decide) ?_
    refine go_istore_n dX12_pairsThatWould_15 (by decide) rfl ?_
    show Go w 2 0 0 mtX12_pairsThatWould 16 [(3, .int 0), (0, .ref 401), (1, .int v1), (2, .int v2)] [] (go_mk tx μ) (go_Z w Q)
    obtain ⟨ρ6, hρ6, h⟩ := go_bind h
    refine go_pick [1, 2, 3, 0] rfl ?_
    refine go_lp (G := ggX12_pairsThatWould_16 w tx Q μ  v2) (E := eeX12_pairsThatWould_16 w tx Q μ  v2) (fun s out h hK => lqX12_pairsThatWould_16 w tx Q μ  v2  s.1 s.2 out h hK) go_fuel (v1, 0) ρ6 hρ6 ?_
    rcases ρ6 with e7 | y
    · have h := go_csl h
      show Go w 2 0 0 mtX12_pairsThatWould 80 [(0, .ref 401), (1, .int e7), (2, .int v2)] [] (go_mk tx μ) (go_Z w Q)
      refine go_iinc (v := (v2 + 1)) dX12_pairsThatWould_80 2 rfl rfl (by decide) rfl ?_
      show Go w 2 0 0 mtX12_pairsThatWould 83 [(2, .int (v2 + 1)), (0, .ref 401), (1, .int e7)] [] (go_mk tx μ) (go_Z w Q)
      refine go_goto 4 dX12_pairsThatWould_83 (by decide) ?_
      cases h
      have hK : Go w 2 0 0 mtX12_pairsThatWould 4 [(0, .ref 401), (1, .int e7), (2, .int (v2 + 1))] [] (go_mk tx μ) (go_Z w Q) := hK
      exact go_pick [1, 2, 0] rfl hK
    · have h := go_csr h
      cases h
      exact hK
set_option maxRecDepth 20000 in
set_option maxHeartbeats 4000000 in
theorem cmX12_pairsThatWould (w : go_Wd) (tx : Nat) (Q : Option Value → go_M → Prop) (μ : PM)  (out : Int32) (h : fX12_pairsThatWould μ = some out) (hK : Q (some (.int out)) (go_mk tx μ)) : Go w 2 0 0 mtX12_pairsThatWould 0 [(0, .ref 401)] [] (go_mk tx μ) (go_Z w Q) := by
  unfold fX12_pairsThatWould at h
  refine go_iconst (v := 0) dX12_pairsThatWould_0 (by decide) ?_
  refine go_istore_n dX12_pairsThatWould_1 (by decide) rfl ?_
  show Go w 2 0 0 mtX12_pairsThatWould 2 [(1, .int 0), (0, .ref 401)] [] (go_mk tx μ) (go_Z w Q)
  refine go_iconst (v := 0) dX12_pairsThatWould_2 (by decide) ?_
  refine go_istore_n dX12_pairsThatWould_3 (by decide) rfl ?_
  show Go w 2 0 0 mtX12_pairsThatWould 4 [(2, .int 0), (1, .int 0), (0, .ref 401)] [] (go_mk tx μ) (go_Z w Q)
  obtain ⟨ρ8, hρ8, h⟩ := go_bind h
  refine go_pick [2, 1, 0] rfl ?_
  refine go_lp (G := ggX12_pairsThatWould_4 w tx Q μ  ) (E := eeX12_pairsThatWould_4 w tx Q μ  ) (fun s out h hK => lqX12_pairsThatWould_4 w tx Q μ    s.1 s.2 out h hK) go_fuel (0, 0) ρ8 hρ8 ?_
  cases h
  exact hK
theorem ctX12_pairsThatWould {w : go_Wd} {tx : Nat} {μ : PM}  {r : Int32}  (h : fX12_pairsThatWould μ = some r) : Ct w 2 0 0 mtX12_pairsThatWould [.ref 401] (go_mk tx μ) (fun r' M' => r' = some (.int r) ∧ M' = go_mk tx μ) :=
  go_entry rfl (by decide) (Nat.le_of_ble_eq_true rfl) (cmX12_pairsThatWould w tx _ μ  _ h ⟨rfl, rfl⟩)
def lbX12_isWay_4 (a0 : Int32)  (v2 : Int32) (v3 : Int32) (μ : PM) : Option ((Int32 × Int32 × PM) ⊕ ((PM) ⊕ (Int32 × PM))) :=
  (if (μ.1 402 1) ≤ v3 then some (.inr (.inl μ)) else go_chk v3 5 <| go_let (pm_wi μ 411 v3.toNatClampNeg (jrem v2 7)) fun μ1 => go_chk v3 5 <| (if (μ1.1 411 v3.toNatClampNeg) = 6 then some (.inl ((v2 / 7), (v3 + 1), μ1)) else go_chk v3 5 <| (if (fX12_isName μ1 (μ1.1 411 v3.toNatClampNeg)) = 0 then some (.inr (.inr ((0, μ1)))) else go_chk v3 5 <| (fX12_wantOf μ1 v3 (μ1.1 411 v3.toNatClampNeg)).bind fun q6 => (if q6 = 0 then some (.inr (.inr ((0, μ1)))) else some (.inl ((v2 / 7), (v3 + 1), μ1))))))
def fX12_isWay (μ : PM) (a0 : Int32) : Option (Int32 × PM) :=
  ((lp (fun s => lbX12_isWay_4 a0 s.1 s.2.1 s.2.2) go_fuel (a0, 0, μ)).bind fun ρ7 => go_cs ρ7 (fun e8 => (fX12_layWith e8).bind fun q9 => (if q9.1 = 0 then some ((0, q9.2)) else (fX12_pairsThatWould q9.2).bind fun q10 => (if q10 = 0 then some ((1, q9.2)) else some ((0, q9.2))))) (fun y => some y))
def ggX12_isWay_4 (w : go_Wd) (tx : Nat) (Q : Option Value → go_M → Prop) (a0 : Int32)  (s : Int32 × Int32 × PM) : Prop := Go w 3 0 0 mtX12_isWay 4 [(0, .ref 401), (2, .int s.1), (3, .int s.2.1)] [] (go_mk tx s.2.2) (go_Z w Q)
def eeX12_isWay_4 (w : go_Wd) (tx : Nat) (Q : Option Value → go_M → Prop) (a0 : Int32)  : (PM) ⊕ (Int32 × PM) → Prop
  | .inl e => Go w 3 0 0 mtX12_isWay 75 [(0, .ref 401)] [] (go_mk tx e) (go_Z w Q)
  | .inr y => Q (some (.int y.1)) (go_mk tx y.2)
set_option maxRecDepth 20000 in
set_option maxHeartbeats 4000000 in
theorem lqX12_isWay_4 (w : go_Wd) (tx : Nat) (Q : Option Value → go_M → Prop) (a0 : Int32)   (v2 : Int32) (v3 : Int32) (μ : PM) (out : (Int32 × Int32 × PM) ⊕ ((PM) ⊕ (Int32 × PM))) (h : lbX12_isWay_4 a0  v2 v3 μ = some out) (hK : go_out (ggX12_isWay_4 w tx Q a0 ) (eeX12_isWay_4 w tx Q a0 ) out) : ggX12_isWay_4 w tx Q a0  (v2, v3, μ) := by
  unfold lbX12_isWay_4 at h
  show Go w 3 0 0 mtX12_isWay 4 [(0, .ref 401), (2, .int v2), (3, .int v3)] [] (go_mk tx μ) (go_Z w Q)
  refine go_iload_n dX12_isWay_4 2 rfl ?_
  refine go_aload_n dX12_isWay_5 0 rfl ?_
  refine pp_getR dX12_isWay_6 ff_X12_7 (Or.inr ⟨_, rfl⟩) sh_401 rf_401_0 ?_
  refine go_iconst (v := 1) dX12_isWay_9 (by decide) ?_
  refine pp_ildc (q := 1) dX12_isWay_10 sh_402 (by decide) ?_
  refine go_icmp_ge 75 dX12_isWay_11 (by decide) (fun hc => ?_) (fun hc => ?_)
  · have h := go_ifp hc h
    cases h
    have hK : Go w 3 0 0 mtX12_isWay 75 [(0, .ref 401)] [] (go_mk tx μ) (go_Z w Q) := hK
    exact go_pick [0] rfl hK
  · have h := go_ifn hc h
    refine go_aload_n dX12_isWay_14 0 rfl ?_
    refine pp_getR dX12_isWay_15 ff_X12_50 (Or.inr ⟨_, rfl⟩) sh_401 rf_401_26 ?_
    refine go_iload_n dX12_isWay_18 2 rfl ?_
    refine go_iload_n dX12_isWay_19 1 rfl ?_
    refine go_bipush (v := 7) dX12_isWay_20 (by decide) ?_
    refine go_iremJ dX12_isWay_22 (by decide) ?_
    obtain ⟨hz2, h⟩ := go_chk_e h
    obtain ⟨μ1, hμ1, h⟩ := go_let_e h
    refine pp_ist dX12_isWay_23 sh_411 hz2 hμ1 ?_
    refine go_iload_n dX12_isWay_24 1 rfl ?_
    refine go_bipush (v := 7) dX12_isWay_25 (by decide) ?_
    refine go_idiv dX12_isWay_27 (by decide) ?_
    refine go_istore_n dX12_isWay_28 (by decide) rfl ?_
    show Go w 3 0 0 mtX12_isWay 29 [(2, .int (v2 / 7)), (0, .ref 401), (3, .int v3)] [] (go_mk tx μ1) (go_Z w Q)
    refine go_aload_n dX12_isWay_29 1 rfl ?_
    refine pp_getR dX12_isWay_30 ff_X12_50 (Or.inr ⟨_, rfl⟩) sh_401 rf_401_26 ?_
    refine go_iload_n dX12_isWay_33 2 rfl ?_
    obtain ⟨hz3, h⟩ := go_chk_e h
    refine pp_ild dX12_isWay_34 sh_411 hz3 ?_
    refine go_bipush (v := 6) dX12_isWay_35 (by decide) ?_
    refine go_icmp_eq 69 dX12_isWay_37 (by decide) (fun hc => ?_) (fun hc => ?_)
    · have h := go_ifp hc h
      refine go_iinc (v := (v3 + 1)) dX12_isWay_69 2 rfl rfl (by decide) rfl ?_
      show Go w 3 0 0 mtX12_isWay 72 [(3, .int (v3 + 1)), (2, .int (v2 / 7)), (0, .ref 401)] [] (go_mk tx μ1) (go_Z w Q)
      refine go_goto 4 dX12_isWay_72 (by decide) ?_
      cases h
      have hK : Go w 3 0 0 mtX12_isWay 4 [(0, .ref 401), (2, .int (v2 / 7)), (3, .int (v3 + 1))] [] (go_mk tx μ1) (go_Z w Q) := hK
      exact go_pick [2, 1, 0] rfl hK
    · have h := go_ifn hc h
      refine go_aload_n dX12_isWay_40 1 rfl ?_
      refine go_aload_n dX12_isWay_41 1 rfl ?_
      refine pp_getR dX12_isWay_42 ff_X12_50 (Or.inr ⟨_, rfl⟩) sh_401 rf_401_26 ?_
      refine go_iload_n dX12_isWay_45 2 rfl ?_
      obtain ⟨hz4, h⟩ := go_chk_e h
      refine pp_ild dX12_isWay_46 sh_411 hz4 ?_
      refine pp_callV (as := [.int (μ1.1 411 v3.toNatClampNeg)]) (st := []) (rv := (some (.int (fX12_isName μ1 (μ1.1 411 v3.toNatClampNeg))))) (μ1 := μ1) (st1 := [.int (fX12_isName μ1 (μ1.1 411 v3.toNatClampNeg))]) dX12_isWay_47 ll_X12_261 sh_401 (by decide) rfl (ctX12_isName  rfl) rfl (Nat.le_of_ble_eq_true rfl) (Nat.le_of_ble_eq_true rfl) (go_Z_up w _) rfl rfl ?_
      refine go_if_eq 67 dX12_isWay_50 (by decide) (fun hc => ?_) (fun hc => ?_)
      · have h := go_ifp hc h
        refine go_iconst (v := 0) dX12_isWay_67 (by decide) ?_
        cases h
        exact go_zret dX12_isWay_68 rfl (Or.inl rfl) hK
      · have h := go_ifn hc h
        refine go_aload_n dX12_isWay_53 1 rfl ?_
        refine go_iload_n dX12_isWay_54 2 rfl ?_
        refine go_aload_n dX12_isWay_55 1 rfl ?_
        refine pp_getR dX12_isWay_56 ff_X12_50 (Or.inr ⟨_, rfl⟩) sh_401 rf_401_26 ?_
        refine go_iload_n dX12_isWay_59 2 rfl ?_
        obtain ⟨hz5, h⟩ := go_chk_e h
        refine pp_ild dX12_isWay_60 sh_411 hz5 ?_
        obtain ⟨q6, hq6, h⟩ := go_bind h
        refine pp_callV (as := [.int v3, .int (μ1.1 411 v3.toNatClampNeg)]) (st := []) (rv := (some (.int q6))) (μ1 := μ1) (st1 := [.int q6]) dX12_isWay_61 ll_X12_403 sh_401 (by decide) rfl (ctX12_wantOf  hq6) rfl (Nat.le_of_ble_eq_true rfl) (Nat.le_of_ble_eq_true rfl) (go_Z_up w _) rfl rfl ?_
        refine go_if_ne 69 dX12_isWay_64 (by decide) (fun hc => ?_) (fun hc => ?_)
        · have h := go_ifn hc h
          refine go_iinc (v := (v3 + 1)) dX12_isWay_69 2 rfl rfl (by decide) rfl ?_
          show Go w 3 0 0 mtX12_isWay 72 [(3, .int (v3 + 1)), (2, .int (v2 / 7)), (0, .ref 401)] [] (go_mk tx μ1) (go_Z w Q)
          refine go_goto 4 dX12_isWay_72 (by decide) ?_
          cases h
          have hK : Go w 3 0 0 mtX12_isWay 4 [(0, .ref 401), (2, .int (v2 / 7)), (3, .int (v3 + 1))] [] (go_mk tx μ1) (go_Z w Q) := hK
          exact go_pick [2, 1, 0] rfl hK
        · have h := go_ifp hc h
          refine go_iconst (v := 0) dX12_isWay_67 (by decide) ?_
          cases h
          exact go_zret dX12_isWay_68 rfl (Or.inl rfl) hK
set_option maxRecDepth 20000 in
set_option maxHeartbeats 4000000 in
theorem cmX12_isWay (w : go_Wd) (tx : Nat) (Q : Option Value → go_M → Prop) (μ : PM) (a0 : Int32) (out : Int32 × PM) (h : fX12_isWay μ a0 = some out) (hK : Q (some (.int out.1)) (go_mk tx out.2)) : Go w 3 0 0 mtX12_isWay 0 [(0, .ref 401), (1, .int a0)] [] (go_mk tx μ) (go_Z w Q) := by
  unfold fX12_isWay at h
  refine go_iload_n dX12_isWay_0 1 rfl ?_
  refine go_istore_n dX12_isWay_1 (by decide) rfl ?_
  show Go w 3 0 0 mtX12_isWay 2 [(2, .int a0), (0, .ref 401), (1, .int a0)] [] (go_mk tx μ) (go_Z w Q)
  refine go_iconst (v := 0) dX12_isWay_2 (by decide) ?_
  refine go_istore_n dX12_isWay_3 (by decide) rfl ?_
  show Go w 3 0 0 mtX12_isWay 4 [(3, .int 0), (2, .int a0), (0, .ref 401), (1, .int a0)] [] (go_mk tx μ) (go_Z w Q)
  obtain ⟨ρ7, hρ7, h⟩ := go_bind h
  refine go_pick [2, 1, 0] rfl ?_
  refine go_lp (G := ggX12_isWay_4 w tx Q a0 ) (E := eeX12_isWay_4 w tx Q a0 ) (fun s out h hK => lqX12_isWay_4 w tx Q a0   s.1 s.2.1 s.2.2 out h hK) go_fuel (a0, 0, μ) ρ7 hρ7 ?_
  rcases ρ7 with e8 | y
  · have h := go_csl h
    show Go w 3 0 0 mtX12_isWay 75 [(0, .ref 401)] [] (go_mk tx e8) (go_Z w Q)
    refine go_aload_n dX12_isWay_75 0 rfl ?_
    obtain ⟨q9, hq9, h⟩ := go_bind h
    refine pp_callV (as := []) (st := []) (rv := (some (.int q9.1))) (μ1 := q9.2) (st1 := [.int q9.1]) dX12_isWay_76 ll_X12_412 sh_401 (by decide) rfl (ctX12_layWith  hq9) rfl (Nat.le_of_ble_eq_true rfl) (Nat.le_of_ble_eq_true rfl) (go_Z_up w _) rfl rfl ?_
    refine go_if_eq 93 dX12_isWay_79 (by decide) (fun hc => ?_) (fun hc => ?_)
    · have h := go_ifp hc h
      refine go_iconst (v := 0) dX12_isWay_93 (by decide) ?_
      cases h
      exact go_zret dX12_isWay_94 rfl (Or.inl rfl) hK
    · have h := go_ifn hc h
      refine go_aload_n dX12_isWay_82 0 rfl ?_
      obtain ⟨q10, hq10, h⟩ := go_bind h
      refine pp_callV (as := []) (st := []) (rv := (some (.int q10))) (μ1 := q9.2) (st1 := [.int q10]) dX12_isWay_83 ll_X12_415 sh_401 (by decide) rfl (ctX12_pairsThatWould  hq10) rfl (Nat.le_of_ble_eq_true rfl) (Nat.le_of_ble_eq_true rfl) (go_Z_up w _) rfl rfl ?_
      refine go_if_ne 93 dX12_isWay_86 (by decide) (fun hc => ?_) (fun hc => ?_)
      · have h := go_ifn hc h
        refine go_iconst (v := 0) dX12_isWay_93 (by decide) ?_
        cases h
        exact go_zret dX12_isWay_94 rfl (Or.inl rfl) hK
      · have h := go_ifp hc h
        refine go_iconst (v := 1) dX12_isWay_89 (by decide) ?_
        refine go_goto 94 dX12_isWay_90 (by decide) ?_
        cases h
        exact go_zret dX12_isWay_94 rfl (Or.inr rfl) hK
  · have h := go_csr h
    cases h
    exact hK
theorem ctX12_isWay {w : go_Wd} {tx : Nat} {μ : PM} {a0 : Int32} {r : Int32} {μ1 : PM}  (h : fX12_isWay μ a0 = some (r, μ1)) : Ct w 3 0 0 mtX12_isWay [.ref 401, .int a0] (go_mk tx μ) (fun r' M' => r' = some (.int r) ∧ M' = go_mk tx μ1) :=
  go_entry rfl (by decide) (Nat.le_of_ble_eq_true rfl) (cmX12_isWay w tx _ μ a0 _ h ⟨rfl, rfl⟩)
def lbX12_codes_4 (μ : PM)   (v1 : Int32) (v2 : Int32) : Option ((Int32 × Int32) ⊕ (Int32)) :=
  (if (μ.1 402 1) ≤ v2 then some (.inr (v1)) else some (.inl ((v1 * 7), (v2 + 1))))
def fX12_codes (μ : PM)  : Option (Int32) :=
  ((lp (fun s => lbX12_codes_4 μ s.1 s.2) go_fuel (1, 0)).bind fun ρ1 => some ρ1)
def ggX12_codes_4 (w : go_Wd) (tx : Nat) (Q : Option Value → go_M → Prop) (μ : PM)   (s : Int32 × Int32) : Prop := Go w 0 0 0 mtX12_codes 4 [(0, .ref 401), (1, .int s.1), (2, .int s.2)] [] (go_mk tx μ) (go_Z w Q)
def eeX12_codes_4 (w : go_Wd) (tx : Nat) (Q : Option Value → go_M → Prop) (μ : PM)   (y : Int32) : Prop := Q (some (.int y)) (go_mk tx μ)
set_option maxRecDepth 20000 in
set_option maxHeartbeats 4000000 in
theorem lqX12_codes_4 (w : go_Wd) (tx : Nat) (Q : Option Value → go_M → Prop) (μ : PM)    (v1 : Int32) (v2 : Int32) (out : (Int32 × Int32) ⊕ (Int32)) (h : lbX12_codes_4 μ  v1 v2 = some out) (hK : go_out (ggX12_codes_4 w tx Q μ  ) (eeX12_codes_4 w tx Q μ  ) out) : ggX12_codes_4 w tx Q μ   (v1, v2) := by
  unfold lbX12_codes_4 at h
  show Go w 0 0 0 mtX12_codes 4 [(0, .ref 401), (1, .int v1), (2, .int v2)] [] (go_mk tx μ) (go_Z w Q)
  refine go_iload_n dX12_codes_4 2 rfl ?_
  refine go_aload_n dX12_codes_5 0 rfl ?_
  refine pp_getR dX12_codes_6 ff_X12_7 (Or.inr ⟨_, rfl⟩) sh_401 rf_401_0 ?_
  refine go_iconst (v := 1) dX12_codes_9 (by decide) ?_
  refine pp_ildc (q := 1) dX12_codes_10 sh_402 (by decide) ?_
  refine go_icmp_ge 25 dX12_codes_11 (by decide) (fun hc => ?_) (fun hc => ?_)
  · have h := go_ifp hc h
    refine go_iload_n dX12_codes_25 1 rfl ?_
    cases h
    exact go_iret dX12_codes_26 rfl hK
  · have h := go_ifn hc h
    refine go_iload_n dX12_codes_14 1 rfl ?_
    refine go_bipush (v := 7) dX12_codes_15 (by decide) ?_
    refine go_imul dX12_codes_17 ?_
    refine go_istore_n dX12_codes_18 (by decide) rfl ?_
    show Go w 0 0 0 mtX12_codes 19 [(1, .int (v1 * 7)), (0, .ref 401), (2, .int v2)] [] (go_mk tx μ) (go_Z w Q)
    refine go_iinc (v := (v2 + 1)) dX12_codes_19 2 rfl rfl (by decide) rfl ?_
    show Go w 0 0 0 mtX12_codes 22 [(2, .int (v2 + 1)), (1, .int (v1 * 7)), (0, .ref 401)] [] (go_mk tx μ) (go_Z w Q)
    refine go_goto 4 dX12_codes_22 (by decide) ?_
    cases h
    have hK : Go w 0 0 0 mtX12_codes 4 [(0, .ref 401), (1, .int (v1 * 7)), (2, .int (v2 + 1))] [] (go_mk tx μ) (go_Z w Q) := hK
    exact go_pick [2, 1, 0] rfl hK
set_option maxRecDepth 20000 in
set_option maxHeartbeats 4000000 in
theorem cmX12_codes (w : go_Wd) (tx : Nat) (Q : Option Value → go_M → Prop) (μ : PM)  (out : Int32) (h : fX12_codes μ = some out) (hK : Q (some (.int out)) (go_mk tx μ)) : Go w 0 0 0 mtX12_codes 0 [(0, .ref 401)] [] (go_mk tx μ) (go_Z w Q) := by
  unfold fX12_codes at h
  refine go_iconst (v := 1) dX12_codes_0 (by decide) ?_
  refine go_istore_n dX12_codes_1 (by decide) rfl ?_
  show Go w 0 0 0 mtX12_codes 2 [(1, .int 1), (0, .ref 401)] [] (go_mk tx μ) (go_Z w Q)
  refine go_iconst (v := 0) dX12_codes_2 (by decide) ?_
  refine go_istore_n dX12_codes_3 (by decide) rfl ?_
  show Go w 0 0 0 mtX12_codes 4 [(2, .int 0), (1, .int 1), (0, .ref 401)] [] (go_mk tx μ) (go_Z w Q)
  obtain ⟨ρ1, hρ1, h⟩ := go_bind h
  refine go_pick [2, 1, 0] rfl ?_
  refine go_lp (G := ggX12_codes_4 w tx Q μ  ) (E := eeX12_codes_4 w tx Q μ  ) (fun s out h hK => lqX12_codes_4 w tx Q μ    s.1 s.2 out h hK) go_fuel (1, 0) ρ1 hρ1 ?_
  cases h
  exact hK
theorem ctX12_codes {w : go_Wd} {tx : Nat} {μ : PM}  {r : Int32}  (h : fX12_codes μ = some r) : Ct w 0 0 0 mtX12_codes [.ref 401] (go_mk tx μ) (fun r' M' => r' = some (.int r) ∧ M' = go_mk tx μ) :=
  go_entry rfl (by decide) (Nat.le_of_ble_eq_true rfl) (cmX12_codes w tx _ μ  _ h ⟨rfl, rfl⟩)
def jjX12_stables_26_4 (μ : PM)  (v2 : Int32) (s0 : Int32) (s1 : Int32) : Option ((Int32 × Int32 × PM) ⊕ (Int32 × PM)) :=
  some (.inl ((s0 + s1), (v2 + 1), μ))
def lbX12_stables_4   (v1 : Int32) (v2 : Int32) (μ : PM) : Option ((Int32 × Int32 × PM) ⊕ (Int32 × PM)) :=
  (fX12_codes μ).bind fun q1 => (if q1 ≤ v2 then some (.inr ((v1, μ))) else (fX12_isWay μ v2).bind fun q2 => (if q2.1 = 0 then jjX12_stables_26_4 q2.2 v2 v1 0 else jjX12_stables_26_4 q2.2 v2 v1 1))
def fX12_stables (μ : PM)  : Option (Int32 × PM) :=
  ((lp (fun s => lbX12_stables_4 s.1 s.2.1 s.2.2) go_fuel (0, 0, μ)).bind fun ρ3 => some ρ3)
def ggX12_stables_4 (w : go_Wd) (tx : Nat) (Q : Option Value → go_M → Prop)   (s : Int32 × Int32 × PM) : Prop := Go w 4 0 0 mtX12_stables 4 [(0, .ref 401), (1, .int s.1), (2, .int s.2.1)] [] (go_mk tx s.2.2) (go_Z w Q)
def eeX12_stables_4 (w : go_Wd) (tx : Nat) (Q : Option Value → go_M → Prop)   (y : Int32 × PM) : Prop := Q (some (.int y.1)) (go_mk tx y.2)
set_option maxRecDepth 20000 in
set_option maxHeartbeats 4000000 in
theorem jqX12_stables_26_4 (w : go_Wd) (tx : Nat) (Q : Option Value → go_M → Prop) (μ : PM)  (v2 : Int32)  (s0 : Int32) (s1 : Int32) (hs1 : s1 = 0 ∨ s1 = 1) (out : (Int32 × Int32 × PM) ⊕ (Int32 × PM)) (h : jjX12_stables_26_4 μ v2 s0 s1 = some out) (hK : go_out (ggX12_stables_4 w tx Q  ) (eeX12_stables_4 w tx Q  ) out) : Go w 4 0 0 mtX12_stables 26 [(0, .ref 401), (2, .int v2)] [.int s1, .int s0] (go_mk tx μ) (go_Z w Q) := by
  unfold jjX12_stables_26_4 at h
  refine go_iadd dX12_stables_26 ?_
  refine go_istore_n dX12_stables_27 (by decide) rfl ?_
  show Go w 4 0 0 mtX12_stables 28 [(1, .int (s0 + s1)), (0, .ref 401), (2, .int v2)] [] (go_mk tx μ) (go_Z w Q)
  refine go_iinc (v := (v2 + 1)) dX12_stables_28 2 rfl rfl (by decide) rfl ?_
  show Go w 4 0 0 mtX12_stables 31 [(2, .int (v2 + 1)), (1, .int (s0 + s1)), (0, .ref 401)] [] (go_mk tx μ) (go_Z w Q)
  refine go_goto 4 dX12_stables_31 (by decide) ?_
  cases h
  have hK : Go w 4 0 0 mtX12_stables 4 [(0, .ref 401), (1, .int (s0 + s1)), (2, .int (v2 + 1))] [] (go_mk tx μ) (go_Z w Q) := hK
  exact go_pick [2, 1, 0] rfl hK
set_option maxRecDepth 20000 in
set_option maxHeartbeats 4000000 in
theorem lqX12_stables_4 (w : go_Wd) (tx : Nat) (Q : Option Value → go_M → Prop)    (v1 : Int32) (v2 : Int32) (μ : PM) (out : (Int32 × Int32 × PM) ⊕ (Int32 × PM)) (h : lbX12_stables_4  v1 v2 μ = some out) (hK : go_out (ggX12_stables_4 w tx Q  ) (eeX12_stables_4 w tx Q  ) out) : ggX12_stables_4 w tx Q   (v1, v2, μ) := by
  unfold lbX12_stables_4 at h
  show Go w 4 0 0 mtX12_stables 4 [(0, .ref 401), (1, .int v1), (2, .int v2)] [] (go_mk tx μ) (go_Z w Q)
  refine go_iload_n dX12_stables_4 2 rfl ?_
  refine go_aload_n dX12_stables_5 0 rfl ?_
  obtain ⟨q1, hq1, h⟩ := go_bind h
  refine pp_callV (as := []) (st := [.int v2]) (rv := (some (.int q1))) (μ1 := μ) (st1 := [.int q1, .int v2]) dX12_stables_6 ll_X12_418 sh_401 (by decide) rfl (ctX12_codes  hq1) rfl (Nat.le_of_ble_eq_true rfl) (Nat.le_of_ble_eq_true rfl) (go_Z_up w _) rfl rfl ?_
  refine go_icmp_ge 34 dX12_stables_9 (by decide) (fun hc => ?_) (fun hc => ?_)
  · have h := go_ifp hc h
    refine go_iload_n dX12_stables_34 1 rfl ?_
    cases h
    exact go_iret dX12_stables_35 rfl hK
  · have h := go_ifn hc h
    refine go_iload_n dX12_stables_12 1 rfl ?_
    refine go_aload_n dX12_stables_13 0 rfl ?_
    refine go_iload_n dX12_stables_14 2 rfl ?_
    obtain ⟨q2, hq2, h⟩ := go_bind h
    refine pp_callV (as := [.int v2]) (st := [.int v1]) (rv := (some (.int q2.1))) (μ1 := q2.2) (st1 := [.int q2.1, .int v1]) dX12_stables_15 ll_X12_421 sh_401 (by decide) rfl (ctX12_isWay  hq2) rfl (Nat.le_of_ble_eq_true rfl) (Nat.le_of_ble_eq_true rfl) (go_Z_up w _) rfl rfl ?_
    refine go_if_eq 25 dX12_stables_18 (by decide) (fun hc => ?_) (fun hc => ?_)
    · have h := go_ifp hc h
      refine go_iconst (v := 0) dX12_stables_25 (by decide) ?_
      refine go_pick [0, 2] rfl ?_
      exact jqX12_stables_26_4 w tx Q q2.2  v2  v1 0 (Or.inl rfl) _ h hK
    · have h := go_ifn hc h
      refine go_iconst (v := 1) dX12_stables_21 (by decide) ?_
      refine go_goto 26 dX12_stables_22 (by decide) ?_
      refine go_pick [0, 2] rfl ?_
      exact jqX12_stables_26_4 w tx Q q2.2  v2  v1 1 (Or.inr rfl) _ h hK
set_option maxRecDepth 20000 in
set_option maxHeartbeats 4000000 in
theorem cmX12_stables (w : go_Wd) (tx : Nat) (Q : Option Value → go_M → Prop) (μ : PM)  (out : Int32 × PM) (h : fX12_stables μ = some out) (hK : Q (some (.int out.1)) (go_mk tx out.2)) : Go w 4 0 0 mtX12_stables 0 [(0, .ref 401)] [] (go_mk tx μ) (go_Z w Q) := by
  unfold fX12_stables at h
  refine go_iconst (v := 0) dX12_stables_0 (by decide) ?_
  refine go_istore_n dX12_stables_1 (by decide) rfl ?_
  show Go w 4 0 0 mtX12_stables 2 [(1, .int 0), (0, .ref 401)] [] (go_mk tx μ) (go_Z w Q)
  refine go_iconst (v := 0) dX12_stables_2 (by decide) ?_
  refine go_istore_n dX12_stables_3 (by decide) rfl ?_
  show Go w 4 0 0 mtX12_stables 4 [(2, .int 0), (1, .int 0), (0, .ref 401)] [] (go_mk tx μ) (go_Z w Q)
  obtain ⟨ρ3, hρ3, h⟩ := go_bind h
  refine go_pick [2, 1, 0] rfl ?_
  refine go_lp (G := ggX12_stables_4 w tx Q  ) (E := eeX12_stables_4 w tx Q  ) (fun s out h hK => lqX12_stables_4 w tx Q    s.1 s.2.1 s.2.2 out h hK) go_fuel (0, 0, μ) ρ3 hρ3 ?_
  cases h
  exact hK
theorem ctX12_stables {w : go_Wd} {tx : Nat} {μ : PM}  {r : Int32} {μ1 : PM}  (h : fX12_stables μ = some (r, μ1)) : Ct w 4 0 0 mtX12_stables [.ref 401] (go_mk tx μ) (fun r' M' => r' = some (.int r) ∧ M' = go_mk tx μ1) :=
  go_entry rfl (by decide) (Nat.le_of_ble_eq_true rfl) (cmX12_stables w tx _ μ  _ h ⟨rfl, rfl⟩)