def lbX6_spells_3 (μ : PM) (a0 : Int32) (a1 : Int32) (a2 : Int32)  (v4 : Int32) : Option ((Int32) ⊕ (Int32)) :=
  (if a1 ≤ v4 then some (.inr (1)) else go_let (((a2 + v4) - a0)) fun x1 => (if x1 < 0 then some (.inr (0)) else (if 300 ≤ x1 then some (.inr (0)) else go_chk v4 151 <| go_chk x1 300 <| (if ((go_by 0).getD v4.toNatClampNeg 0) = (μ.1 371 x1.toNatClampNeg) then some (.inl (v4 + 1)) else some (.inr (0))))))
def fX6_spells (μ : PM) (a0 : Int32) (a1 : Int32) (a2 : Int32) : Option (Int32) :=
  ((lp (fun s => lbX6_spells_3 μ a0 a1 a2 s) go_fuel a0).bind fun ρ4 => some ρ4)
def ggX6_spells_3 (w : go_Wd) (tx : Nat) (Q : Option Value → go_M → Prop) (μ : PM) (a0 : Int32) (a1 : Int32) (a2 : Int32)  (s : Int32) : Prop := Go w 4 0 0 mtX6_spells 3 [(0, .ref 372), (1, .int a0), (2, .int a1), (3, .int a2), (4, .int s)] [] (go_mk tx μ) (go_Z w Q)
def eeX6_spells_3 (w : go_Wd) (tx : Nat) (Q : Option Value → go_M → Prop) (μ : PM) (a0 : Int32) (a1 : Int32) (a2 : Int32)  (y : Int32) : Prop := Q (some (.int y)) (go_mk tx μ)
set_option maxRecDepth 20000 in
set_option maxHeartbeats 4000000 in
theorem lqX6_spells_3 (w : go_Wd) (tx : Nat) (Q : Option Value → go_M → Prop) (μ : PM) (a0 : Int32) (a1 : Int32) (a2 : Int32)   (v4 : Int32) (out : (Int32) ⊕ (Int32)) (h : lbX6_spells_3 μ a0 a1 a2  v4 = some out) (hK : go_out (ggX6_spells_3 w tx Q μ a0 a1 a2 ) (eeX6_spells_3 w tx Q μ a0 a1 a2 ) out) : ggX6_spells_3 w tx Q μ a0 a1 a2  v4 := by
  unfold lbX6_spells_3 at h
  show Go w 4 0 0 mtX6_spells 3 [(0, .ref 372), (1, .int a0), (2, .int a1), (3, .int a2), (4, .int v4)] [] (go_mk tx μ) (go_Z w Q)
  refine go_iload dX6_spells_3 4 rfl ?_
  refine go_iload_n dX6_spells_5 2 rfl ?_
  refine go_icmp_ge 57 dX6_spells_6 (by decide) (fun hc => ?_) (fun hc => ?_)
  · have h := go_ifp hc h
    refine go_iconst (v := 1) dX6_spells_57 (by decide) ?_
    cases h
    exact go_zret dX6_spells_58 rfl (Or.inr rfl) hK
  · have h := go_ifn hc h
    refine go_iload_n dX6_spells_9 3 rfl ?_
    refine go_iload dX6_spells_10 4 rfl ?_
    refine go_iadd dX6_spells_12 ?_
    refine go_iload_n dX6_spells_13 1 rfl ?_
    refine go_isub dX6_spells_14 ?_
    obtain ⟨x1, hx1, h⟩ := go_let_e h
    refine go_top hx1 ?_
    refine go_istore dX6_spells_15 (by decide) rfl ?_
    show Go w 4 0 0 mtX6_spells 17 [(5, .int x1), (0, .ref 372), (1, .int a0), (2, .int a1), (3, .int a2), (4, .int v4)] [] (go_mk tx μ) (go_Z w Q)
    refine go_iload dX6_spells_17 0 rfl ?_
    refine go_if_lt 49 dX6_spells_19 (by decide) (fun hc => ?_) (fun hc => ?_)
    · have h := go_ifp hc h
      refine go_iconst (v := 0) dX6_spells_49 (by decide) ?_
      cases h
      exact go_zret dX6_spells_50 rfl (Or.inl rfl) hK
    · have h := go_ifn hc h
      refine go_iload dX6_spells_22 0 rfl ?_
      refine go_aload_n dX6_spells_24 1 rfl ?_
      refine pp_getR dX6_spells_25 ff_X6_21 (Or.inr ⟨_, rfl⟩) sh_372 rf_372_0 ?_
      refine pp_alen (v := 300) dX6_spells_28 sh_371 (by decide) ?_
      refine go_icmp_ge 49 dX6_spells_29 (by decide) (fun hc => ?_) (fun hc => ?_)
      · have h := go_ifp hc h
        refine go_iconst (v := 0) dX6_spells_49 (by decide) ?_
        cases h
        exact go_zret dX6_spells_50 rfl (Or.inl rfl) hK
      · have h := go_ifn hc h
        refine go_ldcW dX6_spells_32 rfl ?_
        refine go_iload dX6_spells_34 5 rfl ?_
        obtain ⟨hz2, h⟩ := go_chk_e h
        refine pp_callVX (as := [.int v4]) (st := []) (rv := some (.int ((go_by 0).getD v4.toNatClampNeg 0))) (μ1 := μ) (st1 := [.int ((go_by 0).getD v4.toNatClampNeg 0)]) 0 (by decide) dX6_spells_36 ll_X6_85 rfl (ctW_charAt hz2) rfl (Nat.le_of_ble_eq_true rfl) (Nat.le_of_ble_eq_true rfl) (go_Z_up w _) rfl rfl ?_
        refine go_aload_n dX6_spells_39 1 rfl ?_
        refine pp_getR dX6_spells_40 ff_X6_21 (Or.inr ⟨_, rfl⟩) sh_372 rf_372_0 ?_
        refine go_iload dX6_spells_43 0 rfl ?_
        obtain ⟨hz3, h⟩ := go_chk_e h
        refine pp_ild dX6_spells_45 sh_371 hz3 ?_
        refine go_icmp_eq 51 dX6_spells_46 (by decide) (fun hc => ?_) (fun hc => ?_)
        · have h := go_ifp hc h
          refine go_iinc (v := (v4 + 1)) dX6_spells_51 5 rfl rfl (by decide) rfl ?_
          show Go w 4 0 0 mtX6_spells 54 [(4, .int (v4 + 1)), (5, .int x1), (0, .ref 372), (1, .int a0), (2, .int a1), (3, .int a2)] [] (go_mk tx μ) (go_Z w Q)
          refine go_goto 3 dX6_spells_54 (by decide) ?_
          cases h
          have hK : Go w 4 0 0 mtX6_spells 3 [(0, .ref 372), (1, .int a0), (2, .int a1), (3, .int a2), (4, .int (v4 + 1))] [] (go_mk tx μ) (go_Z w Q) := hK
          exact go_pick [2, 3, 4, 5, 0] rfl hK
        · have h := go_ifn hc h
          refine go_iconst (v := 0) dX6_spells_49 (by decide) ?_
          cases h
          exact go_zret dX6_spells_50 rfl (Or.inl rfl) hK
set_option maxRecDepth 20000 in
set_option maxHeartbeats 4000000 in
theorem cmX6_spells (w : go_Wd) (tx : Nat) (Q : Option Value → go_M → Prop) (μ : PM) (a0 : Int32) (a1 : Int32) (a2 : Int32) (out : Int32) (h : fX6_spells μ a0 a1 a2 = some out) (hK : Q (some (.int out)) (go_mk tx μ)) : Go w 4 0 0 mtX6_spells 0 [(0, .ref 372), (1, .int a0), (2, .int a1), (3, .int a2)] [] (go_mk tx μ) (go_Z w Q) := by
  unfold fX6_spells at h
  refine go_iload_n dX6_spells_0 1 rfl ?_
  refine go_istore dX6_spells_1 (by decide) rfl ?_
  show Go w 4 0 0 mtX6_spells 3 [(4, .int a0), (0, .ref 372), (1, .int a0), (2, .int a1), (3, .int a2)] [] (go_mk tx μ) (go_Z w Q)
  obtain ⟨ρ4, hρ4, h⟩ := go_bind h
  refine go_pick [1, 2, 3, 4, 0] rfl ?_
  refine go_lp (G := ggX6_spells_3 w tx Q μ a0 a1 a2 ) (E := eeX6_spells_3 w tx Q μ a0 a1 a2 ) (fun s out h hK => lqX6_spells_3 w tx Q μ a0 a1 a2   s out h hK) go_fuel a0 ρ4 hρ4 ?_
  cases h
  exact hK
theorem ctX6_spells {w : go_Wd} {tx : Nat} {μ : PM} {a0 : Int32} {a1 : Int32} {a2 : Int32} {r : Int32}  (h : fX6_spells μ a0 a1 a2 = some r) : Ct w 4 0 0 mtX6_spells [.ref 372, .int a0, .int a1, .int a2] (go_mk tx μ) (fun r' M' => r' = some (.int r) ∧ M' = go_mk tx μ) :=
  go_entry rfl (by decide) (Nat.le_of_ble_eq_true rfl) (cmX6_spells w tx _ μ a0 a1 a2 _ h ⟨rfl, rfl⟩)
def jjX6_findWord_55_8 (μ : PM) (a0 : Int32) (a1 : Int32) (v3 : Int32) (v5 : Int32)  : Option ((Int32 × Int32 × Int32) ⊕ (Int32)) :=
  some (.inl ((v3 + 1), (v5 + 1), (v5 + 1)))
def lbX6_findWord_8 (μ : PM) (a0 : Int32) (a1 : Int32)  (v3 : Int32) (v4 : Int32) (v5 : Int32) : Option ((Int32 × Int32 × Int32) ⊕ (Int32)) :=
  (if 151 ≤ v5 then some (.inr (31)) else go_chk v5 151 <| (if ((go_by 0).getD v5.toNatClampNeg 0) = 32 then (if (v5 - v4) = (a1 - a0) then (fX6_spells μ v4 v5 a0).bind fun q2 => (if q2 = 0 then jjX6_findWord_55_8 μ a0 a1 v3 v5 else some (.inr (v3))) else jjX6_findWord_55_8 μ a0 a1 v3 v5) else some (.inl (v3, v4, (v5 + 1)))))
def fX6_findWord (μ : PM) (a0 : Int32) (a1 : Int32) : Option (Int32) :=
  ((lp (fun s => lbX6_findWord_8 μ a0 a1 s.1 s.2.1 s.2.2) go_fuel (0, 0, 0)).bind fun ρ3 => some ρ3)
def ggX6_findWord_8 (w : go_Wd) (tx : Nat) (Q : Option Value → go_M → Prop) (μ : PM) (a0 : Int32) (a1 : Int32)  (s : Int32 × Int32 × Int32) : Prop := Go w 5 0 0 mtX6_findWord 8 [(0, .ref 372), (1, .int a0), (2, .int a1), (3, .int s.1), (4, .int s.2.1), (5, .int s.2.2)] [] (go_mk tx μ) (go_Z w Q)
def eeX6_findWord_8 (w : go_Wd) (tx : Nat) (Q : Option Value → go_M → Prop) (μ : PM) (a0 : Int32) (a1 : Int32)  (y : Int32) : Prop := Q (some (.int y)) (go_mk tx μ)
set_option maxRecDepth 20000 in
set_option maxHeartbeats 4000000 in
theorem jqX6_findWord_55_8 (w : go_Wd) (tx : Nat) (Q : Option Value → go_M → Prop) (μ : PM) (a0 : Int32) (a1 : Int32) (v3 : Int32) (v5 : Int32)    (out : (Int32 × Int32 × Int32) ⊕ (Int32)) (h : jjX6_findWord_55_8 μ a0 a1 v3 v5  = some out) (hK : go_out (ggX6_findWord_8 w tx Q μ a0 a1 ) (eeX6_findWord_8 w tx Q μ a0 a1 ) out) : Go w 5 0 0 mtX6_findWord 55 [(0, .ref 372), (1, .int a0), (2, .int a1), (3, .int v3), (5, .int v5)] [] (go_mk tx μ) (go_Z w Q) := by
  unfold jjX6_findWord_55_8 at h
  refine go_iinc (v := (v3 + 1)) dX6_findWord_55 3 rfl rfl (by decide) rfl ?_
  show Go w 5 0 0 mtX6_findWord 58 [(3, .int (v3 + 1)), (0, .ref 372), (1, .int a0), (2, .int a1), (5, .int v5)] [] (go_mk tx μ) (go_Z w Q)
  refine go_iload dX6_findWord_58 4 rfl ?_
  refine go_iconst (v := 1) dX6_findWord_60 (by decide) ?_
  refine go_iadd dX6_findWord_61 ?_
  refine go_istore dX6_findWord_62 (by decide) rfl ?_
  show Go w 5 0 0 mtX6_findWord 64 [(4, .int (v5 + 1)), (3, .int (v3 + 1)), (0, .ref 372), (1, .int a0), (2, .int a1), (5, .int v5)] [] (go_mk tx μ) (go_Z w Q)
  refine go_iinc (v := (v5 + 1)) dX6_findWord_64 5 rfl rfl (by decide) rfl ?_
  show Go w 5 0 0 mtX6_findWord 67 [(5, .int (v5 + 1)), (4, .int (v5 + 1)), (3, .int (v3 + 1)), (0, .ref 372), (1, .int a0), (2, .int a1)] [] (go_mk tx μ) (go_Z w Q)
  refine go_goto 8 dX6_findWord_67 (by decide) ?_
  cases h
  have hK : Go w 5 0 0 mtX6_findWord 8 [(0, .ref 372), (1, .int a0), (2, .int a1), (3, .int (v3 + 1)), (4, .int (v5 + 1)), (5, .int (v5 + 1))] [] (go_mk tx μ) (go_Z w Q) := hK
  exact go_pick [3, 4, 5, 2, 1, 0] rfl hK
set_option maxRecDepth 20000 in
set_option maxHeartbeats 4000000 in
theorem lqX6_findWord_8 (w : go_Wd) (tx : Nat) (Q : Option Value → go_M → Prop) (μ : PM) (a0 : Int32) (a1 : Int32)   (v3 : Int32) (v4 : Int32) (v5 : Int32) (out : (Int32 × Int32 × Int32) ⊕ (Int32)) (h : lbX6_findWord_8 μ a0 a1  v3 v4 v5 = some out) (hK : go_out (ggX6_findWord_8 w tx Q μ a0 a1 ) (eeX6_findWord_8 w tx Q μ a0 a1 ) out) : ggX6_findWord_8 w tx Q μ a0 a1  (v3, v4, v5) := by
  unfold lbX6_findWord_8 at h
  show Go w 5 0 0 mtX6_findWord 8 [(0, .ref 372), (1, .int a0), (2, .int a1), (3, .int v3), (4, .int v4), (5, .int v5)] [] (go_mk tx μ) (go_Z w Q)
  refine go_iload dX6_findWord_8 5 rfl ?_
  refine go_ldcW dX6_findWord_10 rfl ?_
  refine pp_callVX (as := []) (st := [.int v5]) (rv := some (.int 151)) (μ1 := μ) (st1 := [.int 151, .int v5]) 0 (by decide) dX6_findWord_12 ll_X6_79 rfl ctW_length rfl (Nat.le_of_ble_eq_true rfl) (Nat.le_of_ble_eq_true rfl) (go_Z_up w _) rfl rfl ?_
  refine go_icmp_ge 70 dX6_findWord_15 (by decide) (fun hc => ?_) (fun hc => ?_)
  · have h := go_ifp hc h
    refine go_bipush (v := 31) dX6_findWord_70 (by decide) ?_
    cases h
    exact go_iret dX6_findWord_72 rfl hK
  · have h := go_ifn hc h
    refine go_ldcW dX6_findWord_18 rfl ?_
    refine go_iload dX6_findWord_20 5 rfl ?_
    obtain ⟨hz1, h⟩ := go_chk_e h
    refine pp_callVX (as := [.int v5]) (st := []) (rv := some (.int ((go_by 0).getD v5.toNatClampNeg 0))) (μ1 := μ) (st1 := [.int ((go_by 0).getD v5.toNatClampNeg 0)]) 0 (by decide) dX6_findWord_22 ll_X6_85 rfl (ctW_charAt hz1) rfl (Nat.le_of_ble_eq_true rfl) (Nat.le_of_ble_eq_true rfl) (go_Z_up w _) rfl rfl ?_
    refine go_bipush (v := 32) dX6_findWord_25 (by decide) ?_
    refine go_icmp_ne 64 dX6_findWord_27 (by decide) (fun hc => ?_) (fun hc => ?_)
    · have h := go_ifn hc h
      refine go_iinc (v := (v5 + 1)) dX6_findWord_64 5 rfl rfl (by decide) rfl ?_
      show Go w 5 0 0 mtX6_findWord 67 [(5, .int (v5 + 1)), (0, .ref 372), (1, .int a0), (2, .int a1), (3, .int v3), (4, .int v4)] [] (go_mk tx μ) (go_Z w Q)
      refine go_goto 8 dX6_findWord_67 (by decide) ?_
      cases h
      have hK : Go w 5 0 0 mtX6_findWord 8 [(0, .ref 372), (1, .int a0), (2, .int a1), (3, .int v3), (4, .int v4), (5, .int (v5 + 1))] [] (go_mk tx μ) (go_Z w Q) := hK
      exact go_pick [1, 2, 3, 4, 5, 0] rfl hK
    · have h := go_ifp hc h
      refine go_iload dX6_findWord_30 5 rfl ?_
      refine go_iload dX6_findWord_32 4 rfl ?_
      refine go_isub dX6_findWord_34 ?_
      refine go_iload_n dX6_findWord_35 2 rfl ?_
      refine go_iload_n dX6_findWord_36 1 rfl ?_
      refine go_isub dX6_findWord_37 ?_
      refine go_icmp_ne 55 dX6_findWord_38 (by decide) (fun hc => ?_) (fun hc => ?_)
      · have h := go_ifn hc h
        refine go_pick [0, 1, 2, 3, 5] rfl ?_
        exact jqX6_findWord_55_8 w tx Q μ a0 a1 v3 v5    _ h hK
      · have h := go_ifp hc h
        refine go_aload_n dX6_findWord_41 0 rfl ?_
        refine go_iload dX6_findWord_42 4 rfl ?_
        refine go_iload dX6_findWord_44 5 rfl ?_
        refine go_iload_n dX6_findWord_46 1 rfl ?_
        obtain ⟨q2, hq2, h⟩ := go_bind h
        refine pp_callV (as := [.int v4, .int v5, .int a0]) (st := []) (rv := (some (.int q2))) (μ1 := μ) (st1 := [.int q2]) dX6_findWord_47 ll_X6_89 sh_372 (by decide) rfl (ctX6_spells  hq2) rfl (Nat.le_of_ble_eq_true rfl) (Nat.le_of_ble_eq_true rfl) (go_Z_up w _) rfl rfl ?_
        refine go_if_eq 55 dX6_findWord_50 (by decide) (fun hc => ?_) (fun hc => ?_)
        · have h := go_ifp hc h
          refine go_pick [0, 1, 2, 3, 5] rfl ?_
          exact jqX6_findWord_55_8 w tx Q μ a0 a1 v3 v5    _ h hK
        · have h := go_ifn hc h
          refine go_iload_n dX6_findWord_53 3 rfl ?_
          cases h
          exact go_iret dX6_findWord_54 rfl hK
set_option maxRecDepth 20000 in
set_option maxHeartbeats 4000000 in
theorem cmX6_findWord (w : go_Wd) (tx : Nat) (Q : Option Value → go_M → Prop) (μ : PM) (a0 : Int32) (a1 : Int32) (out : Int32) (h : fX6_findWord μ a0 a1 = some out) (hK : Q (some (.int out)) (go_mk tx μ)) : Go w 5 0 0 mtX6_findWord 0 [(0, .ref 372), (1, .int a0), (2, .int a1)] [] (go_mk tx μ) (go_Z w Q) := by
  unfold fX6_findWord at h
  refine go_iconst (v := 0) dX6_findWord_0 (by decide) ?_
  refine go_istore_n dX6_findWord_1 (by decide) rfl ?_
  show Go w 5 0 0 mtX6_findWord 2 [(3, .int 0), (0, .ref 372), (1, .int a0), (2, .int a1)] [] (go_mk tx μ) (go_Z w Q)
  refine go_iconst (v := 0) dX6_findWord_2 (by decide) ?_
  refine go_istore dX6_findWord_3 (by decide) rfl ?_
  show Go w 5 0 0 mtX6_findWord 5 [(4, .int 0), (3, .int 0), (0, .ref 372), (1, .int a0), (2, .int a1)] [] (go_mk tx μ) (go_Z w Q)
  refine go_iconst (v := 0) dX6_findWord_5 (by decide) ?_
  refine go_istore dX6_findWord_6 (by decide) rfl ?_
  show Go w 5 0 0 mtX6_findWord 8 [(5, .int 0), (4, .int 0), (3, .int 0), (0, .ref 372), (1, .int a0), (2, .int a1)] [] (go_mk tx μ) (go_Z w Q)
  obtain ⟨ρ3, hρ3, h⟩ := go_bind h
  refine go_pick [3, 4, 5, 2, 1, 0] rfl ?_
  refine go_lp (G := ggX6_findWord_8 w tx Q μ a0 a1 ) (E := eeX6_findWord_8 w tx Q μ a0 a1 ) (fun s out h hK => lqX6_findWord_8 w tx Q μ a0 a1   s.1 s.2.1 s.2.2 out h hK) go_fuel (0, 0, 0) ρ3 hρ3 ?_
  cases h
  exact hK
theorem ctX6_findWord {w : go_Wd} {tx : Nat} {μ : PM} {a0 : Int32} {a1 : Int32} {r : Int32}  (h : fX6_findWord μ a0 a1 = some r) : Ct w 5 0 0 mtX6_findWord [.ref 372, .int a0, .int a1] (go_mk tx μ) (fun r' M' => r' = some (.int r) ∧ M' = go_mk tx μ) :=
  go_entry rfl (by decide) (Nat.le_of_ble_eq_true rfl) (cmX6_findWord w tx _ μ a0 a1 _ h ⟨rfl, rfl⟩)
def jjX6_findSign_26 (a0 : Int32) (a1 : Int32)   : Int32 :=
  go_let ((go_ix ((a0.toUInt32 % 65536).toInt32))) fun x1 => (if 0 ≤ x1 then (40 + x1) else 54)
def jjX6_findSign_13 (a0 : Int32) (a1 : Int32)   : Int32 :=
  (if a1 = 0 then jjX6_findSign_26 a0 a1 else (if a0 = 62 then 52 else jjX6_findSign_26 a0 a1))
def fX6_findSign (a0 : Int32) (a1 : Int32) : Int32 :=
  (if a1 = 0 then jjX6_findSign_13 a0 a1 else (if a0 = 60 then 51 else jjX6_findSign_13 a0 a1))
set_option maxRecDepth 20000 in
set_option maxHeartbeats 4000000 in
theorem jqX6_findSign_26 (w : go_Wd) (tx : Nat) (Q : Option Value → go_M → Prop) (μ : PM) (a0 : Int32) (a1 : Int32)     (out : Int32) (h : jjX6_findSign_26 a0 a1   = out) (hK : Q (some (.int out)) (go_mk tx μ)) : Go w 4 0 0 mtX6_findSign 26 [(0, .int a0)] [] (go_mk tx μ) (go_Z w Q) := by
  unfold jjX6_findSign_26 at h
  refine go_ldcG dX6_findSign_26 rfl ?_
  refine go_iload_n dX6_findSign_28 0 rfl ?_
  refine go_i2c dX6_findSign_29 ?_
  refine pp_callVX (as := [.int (a0.toUInt32 % 65536).toInt32]) (st := []) (rv := some (.int (go_ix ((a0.toUInt32 % 65536).toInt32)))) (μ1 := μ) (st1 := [.int (go_ix ((a0.toUInt32 % 65536).toInt32))]) 1 (by decide) dX6_findSign_30 ll_X6_95 rfl ctJ0_indexOf rfl (Nat.le_of_ble_eq_true rfl) (Nat.le_of_ble_eq_true rfl) (go_Z_up w _) rfl rfl ?_
  obtain ⟨x1, hx1, h⟩ := go_let_e h
  refine go_top hx1 ?_
  refine go_istore_n dX6_findSign_33 (by decide) rfl ?_
  show Go w 4 0 0 mtX6_findSign 34 [(2, .int x1), (0, .int a0)] [] (go_mk tx μ) (go_Z w Q)
  refine go_iload_n dX6_findSign_34 0 rfl ?_
  refine go_if_ge 43 dX6_findSign_35 (by decide) (fun hc => ?_) (fun hc => ?_)
  · have h := go_ifp hc h
    refine go_bipush (v := 40) dX6_findSign_43 (by decide) ?_
    refine go_iload_n dX6_findSign_45 0 rfl ?_
    refine go_iadd dX6_findSign_46 ?_
    subst h
    exact go_iret dX6_findSign_47 rfl hK
  · have h := go_ifn hc h
    refine go_bipush (v := 54) dX6_findSign_38 (by decide) ?_
    refine go_goto 47 dX6_findSign_40 (by decide) ?_
    subst h
    exact go_iret dX6_findSign_47 rfl hK
set_option maxRecDepth 20000 in
set_option maxHeartbeats 4000000 in
theorem jqX6_findSign_13 (w : go_Wd) (tx : Nat) (Q : Option Value → go_M → Prop) (μ : PM) (a0 : Int32) (a1 : Int32)     (out : Int32) (h : jjX6_findSign_13 a0 a1   = out) (hK : Q (some (.int out)) (go_mk tx μ)) : Go w 4 0 0 mtX6_findSign 13 [(0, .int a0), (1, .int a1)] [] (go_mk tx μ) (go_Z w Q) := by
  unfold jjX6_findSign_13 at h
  refine go_iload_n dX6_findSign_13 1 rfl ?_
  refine go_if_eq 26 dX6_findSign_14 (by decide) (fun hc => ?_) (fun hc => ?_)
  · have h := go_ifp hc h
    refine go_pick [0] rfl ?_
    exact jqX6_findSign_26 w tx Q μ a0 a1     _ h hK
  · have h := go_ifn hc h
    refine go_iload_n dX6_findSign_17 0 rfl ?_
    refine go_bipush (v := 62) dX6_findSign_18 (by decide) ?_
    refine go_icmp_ne 26 dX6_findSign_20 (by decide) (fun hc => ?_) (fun hc => ?_)
    · have h := go_ifn hc h
      refine go_pick [0] rfl ?_
      exact jqX6_findSign_26 w tx Q μ a0 a1     _ h hK
    · have h := go_ifp hc h
      refine go_bipush (v := 52) dX6_findSign_23 (by decide) ?_
      subst h
      exact go_iret dX6_findSign_25 rfl hK
set_option maxRecDepth 20000 in
set_option maxHeartbeats 4000000 in
theorem cmX6_findSign (w : go_Wd) (tx : Nat) (Q : Option Value → go_M → Prop) (μ : PM) (a0 : Int32) (a1 : Int32) (out : Int32) (h : fX6_findSign a0 a1 = out) (hK : Q (some (.int out)) (go_mk tx μ)) : Go w 4 0 0 mtX6_findSign 0 [(0, .int a0), (1, .int a1)] [] (go_mk tx μ) (go_Z w Q) := by
  unfold fX6_findSign at h
  refine go_iload_n dX6_findSign_0 1 rfl ?_
  refine go_if_eq 13 dX6_findSign_1 (by decide) (fun hc => ?_) (fun hc => ?_)
  · have h := go_ifp hc h
    refine go_pick [0, 1] rfl ?_
    exact jqX6_findSign_13 w tx Q μ a0 a1     _ h hK
  · have h := go_ifn hc h
    refine go_iload_n dX6_findSign_4 0 rfl ?_
    refine go_bipush (v := 60) dX6_findSign_5 (by decide) ?_
    refine go_icmp_ne 13 dX6_findSign_7 (by decide) (fun hc => ?_) (fun hc => ?_)
    · have h := go_ifn hc h
      refine go_pick [0, 1] rfl ?_
      exact jqX6_findSign_13 w tx Q μ a0 a1     _ h hK
    · have h := go_ifp hc h
      refine go_bipush (v := 51) dX6_findSign_10 (by decide) ?_
      subst h
      exact go_iret dX6_findSign_12 rfl hK
theorem ctX6_findSign {w : go_Wd} {tx : Nat} {μ : PM} {a0 : Int32} {a1 : Int32} {r : Int32}  (h : fX6_findSign a0 a1 = r) : Ct w 4 0 0 mtX6_findSign [.int a0, .int a1] (go_mk tx μ) (fun r' M' => r' = some (.int r) ∧ M' = go_mk tx μ) :=
  go_entry rfl (by decide) (Nat.le_of_ble_eq_true rfl) (cmX6_findSign w tx _ μ a0 a1 _ h ⟨rfl, rfl⟩)
def jjX6_splitTape_43_4 (μ : PM) (a0 : Int32) (v2 : Int32) (v5 : Int32)  : Option ((Int32 × Int32 × PM) ⊕ ((Int32 × PM) ⊕ (PM))) :=
  some (.inl (v2, v5, μ))
def jjX6_splitTape_225_4 (μ : PM) (a0 : Int32) (v2 : Int32) (v3 : Int32) (v5 : Int32)  : Option ((Int32 × Int32 × PM) ⊕ ((Int32 × PM) ⊕ (PM))) :=
  go_chk v2 301 <| go_let (pm_wi μ 374 v2.toNatClampNeg v3) fun μ6 => some (.inl ((v2 + 1), v5, μ6))
def jjX6_splitTape_222_4 (μ : PM) (a0 : Int32) (v2 : Int32) (v3 : Int32) (s0 : Int32) (s1 : Int32) : Option ((Int32 × Int32 × PM) ⊕ ((Int32 × PM) ⊕ (PM))) :=
  jjX6_splitTape_225_4 μ a0 v2 v3 ((s0 + s1))
def jjX6_splitTape_217_4 (μ : PM) (a0 : Int32) (v2 : Int32) (v3 : Int32) (s0 : Int32) : Option ((Int32 × Int32 × PM) ⊕ ((Int32 × PM) ⊕ (PM))) :=
  jjX6_splitTape_222_4 μ a0 v2 v3 s0 1
def jjX6_splitTape_178_4 (μ : PM) (a0 : Int32) (v2 : Int32) (v3 : Int32) (v4 : Int32) (v5 : Int32) (s0 : Int32) : Option ((Int32 × Int32 × PM) ⊕ ((Int32 × PM) ⊕ (PM))) :=
  go_chk v2 301 <| go_let (pm_wi μ 373 v2.toNatClampNeg (fX6_findSign v4 s0)) fun μ3 => go_chk v2 301 <| (if (μ3.1 373 v2.toNatClampNeg) = 51 then jjX6_splitTape_217_4 μ3 a0 v2 v3 v5 else go_chk v2 301 <| (if (μ3.1 373 v2.toNatClampNeg) = 52 then jjX6_splitTape_217_4 μ3 a0 v2 v3 v5 else jjX6_splitTape_222_4 μ3 a0 v2 v3 v5 0))
def jjX6_splitTape_177_4 (μ : PM) (a0 : Int32) (v2 : Int32) (v3 : Int32) (v4 : Int32) (v5 : Int32)  : Option ((Int32 × Int32 × PM) ⊕ ((Int32 × PM) ⊕ (PM))) :=
  jjX6_splitTape_178_4 μ a0 v2 v3 v4 v5 0
def lbX6_splitTape_106 (μ : PM) (a0 : Int32) (v2 : Int32) (v3 : Int32) (v5 : Int32) : Option ((Int32) ⊕ ((Int32) ⊕ ((Int32 × Int32 × PM) ⊕ ((Int32 × PM) ⊕ (PM))))) :=
  (if a0 ≤ v5 then some (.inr (.inl v5)) else go_chk v5 300 <| (if (fX6_isDigit (μ.1 371 v5.toNatClampNeg)) = 0 then some (.inr (.inl v5)) else some (.inl (v5 + 1))))
def jjX6_splitTape_131_4 (μ : PM) (a0 : Int32) (v2 : Int32) (v3 : Int32) (v5 : Int32)  : Option ((Int32 × Int32 × PM) ⊕ ((Int32 × PM) ⊕ (PM))) :=
  go_chk v2 301 <| go_let (pm_wi μ 373 v2.toNatClampNeg 32) fun μ13 => (fX6_valueOf μ13 v3 v5).bind fun q15 => go_chk v2 301 <| go_let (pm_wi μ13 375 v2.toNatClampNeg q15) fun μ16 => jjX6_splitTape_225_4 μ16 a0 v2 v3 v5
def lbX6_splitTape_57 (μ : PM) (a0 : Int32) (v2 : Int32) (v3 : Int32) (v5 : Int32) : Option ((Int32) ⊕ ((Int32) ⊕ ((Int32 × Int32 × PM) ⊕ ((Int32 × PM) ⊕ (PM))))) :=
  (if a0 ≤ v5 then some (.inr (.inl v5)) else go_chk v5 300 <| (if (fX6_isLetter (μ.1 371 v5.toNatClampNeg)) = 0 then some (.inr (.inl v5)) else some (.inl (v5 + 1))))
def jjX6_splitTape_82_4 (μ : PM) (a0 : Int32) (v2 : Int32) (v3 : Int32) (v5 : Int32)  : Option ((Int32 × Int32 × PM) ⊕ ((Int32 × PM) ⊕ (PM))) :=
  (fX6_findWord μ v3 v5).bind fun q21 => go_chk v2 301 <| go_let (pm_wi μ 373 v2.toNatClampNeg q21) fun μ22 => jjX6_splitTape_225_4 μ22 a0 v2 v3 v5
def lbX6_splitTape_4 (a0 : Int32)  (v2 : Int32) (v3 : Int32) (μ : PM) : Option ((Int32 × Int32 × PM) ⊕ ((Int32 × PM) ⊕ (PM))) :=
  (if a0 ≤ v3 then some (.inr (.inl (v2, μ))) else (if 300 ≤ v2 then some (.inr (.inl (v2, μ))) else go_chk v3 300 <| go_let ((μ.1 371 v3.toNatClampNeg)) fun x2 => (if x2 = 32 then jjX6_splitTape_43_4 μ a0 v2 ((v3 + 1)) else (if x2 = 10 then jjX6_splitTape_43_4 μ a0 v2 ((v3 + 1)) else (if (fX6_isLetter x2) = 0 then (if (fX6_isDigit x2) = 0 then (if a0 ≤ (v3 + 1) then jjX6_splitTape_177_4 μ a0 v2 v3 x2 ((v3 + 1)) else go_chk (v3 + 1) 300 <| (if (μ.1 371 ((v3 + 1) : Int32).toNatClampNeg) = 61 then jjX6_splitTape_178_4 μ a0 v2 v3 x2 ((v3 + 1)) 1 else jjX6_splitTape_177_4 μ a0 v2 v3 x2 ((v3 + 1)))) else ((lp (fun s => lbX6_splitTape_106 μ a0 v2 v3 s) go_fuel (v3 + 1)).bind fun ρ11 => go_cs ρ11 (fun e12 => jjX6_splitTape_131_4 μ a0 v2 v3 e12) (fun y => some y))) else ((lp (fun s => lbX6_splitTape_57 μ a0 v2 v3 s) go_fuel (v3 + 1)).bind fun ρ19 => go_cs ρ19 (fun e20 => jjX6_splitTape_82_4 μ a0 v2 v3 e20) (fun y => some y)))))))
def jjX6_splitTape_241 (μ : PM) (a0 : Int32) (v2 : Int32)  : Option (PM) :=
  go_chk v2 301 <| go_let (pm_wi μ 373 v2.toNatClampNeg 53) fun μ26 => go_chk v2 301 <| go_let (pm_wi μ26 374 v2.toNatClampNeg a0) fun μ28 => some (μ28)
def fX6_splitTape (μ : PM) (a0 : Int32) : Option (PM) :=
  ((lp (fun s => lbX6_splitTape_4 a0 s.1 s.2.1 s.2.2) go_fuel (0, 0, μ)).bind fun ρ24 => go_cs ρ24 (fun e25 => jjX6_splitTape_241 e25.2 a0 e25.1) (fun y => some y))
def ggX6_splitTape_106 (w : go_Wd) (tx : Nat) (Q : Option Value → go_M → Prop) (μ : PM) (a0 : Int32) (v2 : Int32) (v3 : Int32) (s : Int32) : Prop := Go w 6 0 0 mtX6_splitTape 106 [(0, .ref 372), (1, .int a0), (2, .int v2), (3, .int v3), (5, .int s)] [] (go_mk tx μ) (go_Z w Q)
def ggX6_splitTape_57 (w : go_Wd) (tx : Nat) (Q : Option Value → go_M → Prop) (μ : PM) (a0 : Int32) (v2 : Int32) (v3 : Int32) (s : Int32) : Prop := Go w 6 0 0 mtX6_splitTape 57 [(0, .ref 372), (1, .int a0), (2, .int v2), (3, .int v3), (5, .int s)] [] (go_mk tx μ) (go_Z w Q)
def ggX6_splitTape_4 (w : go_Wd) (tx : Nat) (Q : Option Value → go_M → Prop) (a0 : Int32)  (s : Int32 × Int32 × PM) : Prop := Go w 6 0 0 mtX6_splitTape 4 [(0, .ref 372), (1, .int a0), (2, .int s.1), (3, .int s.2.1)] [] (go_mk tx s.2.2) (go_Z w Q)
def eeX6_splitTape_4 (w : go_Wd) (tx : Nat) (Q : Option Value → go_M → Prop) (a0 : Int32)  : (Int32 × PM) ⊕ (PM) → Prop
  | .inl e => Go w 6 0 0 mtX6_splitTape 241 [(0, .ref 372), (1, .int a0), (2, .int e.1)] [] (go_mk tx e.2) (go_Z w Q)
  | .inr y => Q none (go_mk tx y)
def eeX6_splitTape_106 (w : go_Wd) (tx : Nat) (Q : Option Value → go_M → Prop) (μ : PM) (a0 : Int32) (v2 : Int32) (v3 : Int32) : (Int32) ⊕ ((Int32 × Int32 × PM) ⊕ ((Int32 × PM) ⊕ (PM))) → Prop
  | .inl e => Go w 6 0 0 mtX6_splitTape 131 [(0, .ref 372), (1, .int a0), (2, .int v2), (3, .int v3), (5, .int e)] [] (go_mk tx μ) (go_Z w Q)
  | .inr y => go_out (ggX6_splitTape_4 w tx Q a0 ) (eeX6_splitTape_4 w tx Q a0 ) y
def eeX6_splitTape_57 (w : go_Wd) (tx : Nat) (Q : Option Value → go_M → Prop) (μ : PM) (a0 : Int32) (v2 : Int32) (v3 : Int32) : (Int32) ⊕ ((Int32 × Int32 × PM) ⊕ ((Int32 × PM) ⊕ (PM))) → Prop
  | .inl e => Go w 6 0 0 mtX6_splitTape 82 [(0, .ref 372), (1, .int a0), (2, .int v2), (3, .int v3), (5, .int e)] [] (go_mk tx μ) (go_Z w Q)
  | .inr y => go_out (ggX6_splitTape_4 w tx Q a0 ) (eeX6_splitTape_4 w tx Q a0 ) y
set_option maxRecDepth 20000 in
set_option maxHeartbeats 4000000 in
theorem jqX6_splitTape_43_4 (w : go_Wd) (tx : Nat) (Q : Option Value → go_M → Prop) (μ : PM) (a0 : Int32) (v2 : Int32) (v5 : Int32)    (out : (Int32 × Int32 × PM) ⊕ ((Int32 × PM) ⊕ (PM))) (h : jjX6_splitTape_43_4 μ a0 v2 v5  = some out) (hK : go_out (ggX6_splitTape_4 w tx Q a0 ) (eeX6_splitTape_4 w tx Q a0 ) out) : Go w 6 0 0 mtX6_splitTape 43 [(0, .ref 372), (1, .int a0), (2, .int v2), (5, .int v5)] [] (go_mk tx μ) (go_Z w Q) := by
  unfold jjX6_splitTape_43_4 at h
  refine go_iload dX6_splitTape_43 3 rfl ?_
  refine go_istore_n dX6_splitTape_45 (by decide) rfl ?_
  show Go w 6 0 0 mtX6_splitTape 46 [(3, .int v5), (0, .ref 372), (1, .int a0), (2, .int v2), (5, .int v5)] [] (go_mk tx μ) (go_Z w Q)
  refine go_goto 4 dX6_splitTape_46 (by decide) ?_
  cases h
  have hK : Go w 6 0 0 mtX6_splitTape 4 [(0, .ref 372), (1, .int a0), (2, .int v2), (3, .int v5)] [] (go_mk tx μ) (go_Z w Q) := hK
  exact go_pick [1, 2, 3, 0] rfl hK
set_option maxRecDepth 20000 in
set_option maxHeartbeats 4000000 in
theorem jqX6_splitTape_225_4 (w : go_Wd) (tx : Nat) (Q : Option Value → go_M → Prop) (μ : PM) (a0 : Int32) (v2 : Int32) (v3 : Int32) (v5 : Int32)    (out : (Int32 × Int32 × PM) ⊕ ((Int32 × PM) ⊕ (PM))) (h : jjX6_splitTape_225_4 μ a0 v2 v3 v5  = some out) (hK : go_out (ggX6_splitTape_4 w tx Q a0 ) (eeX6_splitTape_4 w tx Q a0 ) out) : Go w 6 0 0 mtX6_splitTape 225 [(0, .ref 372), (1, .int a0), (2, .int v2), (3, .int v3), (5, .int v5)] [] (go_mk tx μ) (go_Z w Q) := by
  unfold jjX6_splitTape_225_4 at h
  refine go_aload_n dX6_splitTape_225 0 rfl ?_
  refine pp_getR dX6_splitTape_226 ff_X6_15 (Or.inr ⟨_, rfl⟩) sh_372 rf_372_2 ?_
  refine go_iload_n dX6_splitTape_229 2 rfl ?_
  refine go_iload_n dX6_splitTape_230 3 rfl ?_
  obtain ⟨hz7, h⟩ := go_chk_e h
  obtain ⟨μ6, hμ6, h⟩ := go_let_e h
  refine pp_ist dX6_splitTape_231 sh_374 hz7 hμ6 ?_
  refine go_iinc (v := (v2 + 1)) dX6_splitTape_232 2 rfl rfl (by decide) rfl ?_
  show Go w 6 0 0 mtX6_splitTape 235 [(2, .int (v2 + 1)), (0, .ref 372), (1, .int a0), (3, .int v3), (5, .int v5)] [] (go_mk tx μ6) (go_Z w Q)
  refine go_iload dX6_splitTape_235 4 rfl ?_
  refine go_istore_n dX6_splitTape_237 (by decide) rfl ?_
  show Go w 6 0 0 mtX6_splitTape 238 [(3, .int v5), (2, .int (v2 + 1)), (0, .ref 372), (1, .int a0), (5, .int v5)] [] (go_mk tx μ6) (go_Z w Q)
  refine go_goto 4 dX6_splitTape_238 (by decide) ?_
  cases h
  have hK : Go w 6 0 0 mtX6_splitTape 4 [(0, .ref 372), (1, .int a0), (2, .int (v2 + 1)), (3, .int v5)] [] (go_mk tx μ6) (go_Z w Q) := hK
  exact go_pick [2, 3, 1, 0] rfl hK
set_option maxRecDepth 20000 in
set_option maxHeartbeats 4000000 in
theorem jqX6_splitTape_222_4 (w : go_Wd) (tx : Nat) (Q : Option Value → go_M → Prop) (μ : PM) (a0 : Int32) (v2 : Int32) (v3 : Int32)  (s0 : Int32) (s1 : Int32) (hs1 : s1 = 0 ∨ s1 = 1) (out : (Int32 × Int32 × PM) ⊕ ((Int32 × PM) ⊕ (PM))) (h : jjX6_splitTape_222_4 μ a0 v2 v3 s0 s1 = some out) (hK : go_out (ggX6_splitTape_4 w tx Q a0 ) (eeX6_splitTape_4 w tx Q a0 ) out) : Go w 6 0 0 mtX6_splitTape 222 [(0, .ref 372), (1, .int a0), (2, .int v2), (3, .int v3)] [.int s1, .int s0] (go_mk tx μ) (go_Z w Q) := by
  unfold jjX6_splitTape_222_4 at h
  refine go_iadd dX6_splitTape_222 ?_
  refine go_istore dX6_splitTape_223 (by decide) rfl ?_
  show Go w 6 0 0 mtX6_splitTape 225 [(5, .int (s0 + s1)), (0, .ref 372), (1, .int a0), (2, .int v2), (3, .int v3)] [] (go_mk tx μ) (go_Z w Q)
  refine go_pick [1, 2, 3, 4, 0] rfl ?_
  exact jqX6_splitTape_225_4 w tx Q μ a0 v2 v3 ((s0 + s1))    _ h hK
set_option maxRecDepth 20000 in
set_option maxHeartbeats 4000000 in
theorem jqX6_splitTape_217_4 (w : go_Wd) (tx : Nat) (Q : Option Value → go_M → Prop) (μ : PM) (a0 : Int32) (v2 : Int32) (v3 : Int32)  (s0 : Int32)  (out : (Int32 × Int32 × PM) ⊕ ((Int32 × PM) ⊕ (PM))) (h : jjX6_splitTape_217_4 μ a0 v2 v3 s0 = some out) (hK : go_out (ggX6_splitTape_4 w tx Q a0 ) (eeX6_splitTape_4 w tx Q a0 ) out) : Go w 6 0 0 mtX6_splitTape 217 [(0, .ref 372), (1, .int a0), (2, .int v2), (3, .int v3)] [.int s0] (go_mk tx μ) (go_Z w Q) := by
  unfold jjX6_splitTape_217_4 at h
  refine go_iconst (v := 1) dX6_splitTape_217 (by decide) ?_
  refine go_goto 222 dX6_splitTape_218 (by decide) ?_
  refine go_pick [0, 1, 2, 3] rfl ?_
  exact jqX6_splitTape_222_4 w tx Q μ a0 v2 v3  s0 1 (Or.inr rfl) _ h hK
set_option maxRecDepth 20000 in
set_option maxHeartbeats 4000000 in
theorem jqX6_splitTape_178_4 (w : go_Wd) (tx : Nat) (Q : Option Value → go_M → Prop) (μ : PM) (a0 : Int32) (v2 : Int32) (v3 : Int32) (v4 : Int32) (v5 : Int32)  (s0 : Int32) (hs0 : s0 = 0 ∨ s0 = 1) (out : (Int32 × Int32 × PM) ⊕ ((Int32 × PM) ⊕ (PM))) (h : jjX6_splitTape_178_4 μ a0 v2 v3 v4 v5 s0 = some out) (hK : go_out (ggX6_splitTape_4 w tx Q a0 ) (eeX6_splitTape_4 w tx Q a0 ) out) : Go w 6 0 0 mtX6_splitTape 178 [(0, .ref 372), (1, .int a0), (2, .int v2), (3, .int v3), (4, .int v4), (5, .int v5)] [.int s0] (go_mk tx μ) (go_Z w Q) := by
  unfold jjX6_splitTape_178_4 at h
  refine go_istore dX6_splitTape_178 (by decide) rfl ?_
  show Go w 6 0 0 mtX6_splitTape 180 [(6, .int s0), (0, .ref 372), (1, .int a0), (2, .int v2), (3, .int v3), (4, .int v4), (5, .int v5)] [] (go_mk tx μ) (go_Z w Q)
  refine go_aload_n dX6_splitTape_180 1 rfl ?_
  refine pp_getR dX6_splitTape_181 ff_X6_9 (Or.inr ⟨_, rfl⟩) sh_372 rf_372_1 ?_
  refine go_iload_n dX6_splitTape_184 3 rfl ?_
  refine go_iload dX6_splitTape_185 5 rfl ?_
  refine go_iload dX6_splitTape_187 0 rfl ?_
  refine pp_callS (as := [.int v4, .int s0]) (st := [.int v2, .ref 373]) (rv := (some (.int (fX6_findSign v4 s0)))) (μ1 := μ) (st1 := [.int (fX6_findSign v4 s0), .int v2, .ref 373]) dX6_splitTape_189 ll_X6_73 (ctX6_findSign  rfl) rfl (Nat.le_of_ble_eq_true rfl) (Nat.le_of_ble_eq_true rfl) (go_Z_up w _) rfl rfl ?_
  obtain ⟨hz4, h⟩ := go_chk_e h
  obtain ⟨μ3, hμ3, h⟩ := go_let_e h
  refine pp_ist dX6_splitTape_192 sh_373 hz4 hμ3 ?_
  refine go_iload dX6_splitTape_193 6 rfl ?_
  refine go_aload_n dX6_splitTape_195 1 rfl ?_
  refine pp_getR dX6_splitTape_196 ff_X6_9 (Or.inr ⟨_, rfl⟩) sh_372 rf_372_1 ?_
  refine go_iload_n dX6_splitTape_199 3 rfl ?_
  obtain ⟨hz5, h⟩ := go_chk_e h
  refine pp_ild dX6_splitTape_200 sh_373 hz5 ?_
  refine go_bipush (v := 51) dX6_splitTape_201 (by decide) ?_
  refine go_icmp_eq 217 dX6_splitTape_203 (by decide) (fun hc => ?_) (fun hc => ?_)
  · have h := go_ifp hc h
    refine go_pick [1, 2, 3, 4] rfl ?_
    exact jqX6_splitTape_217_4 w tx Q μ3 a0 v2 v3  v5  _ h hK
  · have h := go_ifn hc h
    refine go_aload_n dX6_splitTape_206 1 rfl ?_
    refine pp_getR dX6_splitTape_207 ff_X6_9 (Or.inr ⟨_, rfl⟩) sh_372 rf_372_1 ?_
    refine go_iload_n dX6_splitTape_210 3 rfl ?_
    obtain ⟨hz8, h⟩ := go_chk_e h
    refine pp_ild dX6_splitTape_211 sh_373 hz8 ?_
    refine go_bipush (v := 52) dX6_splitTape_212 (by decide) ?_
    refine go_icmp_ne 221 dX6_splitTape_214 (by decide) (fun hc => ?_) (fun hc => ?_)
    · have h := go_ifn hc h
      refine go_iconst (v := 0) dX6_splitTape_221 (by decide) ?_
      refine go_pick [1, 2, 3, 4] rfl ?_
      exact jqX6_splitTape_222_4 w tx Q μ3 a0 v2 v3  v5 0 (Or.inl rfl) _ h hK
    · have h := go_ifp hc h
      refine go_pick [1, 2, 3, 4] rfl ?_
      exact jqX6_splitTape_217_4 w tx Q μ3 a0 v2 v3  v5  _ h hK
set_option maxRecDepth 20000 in
set_option maxHeartbeats 4000000 in
theorem jqX6_splitTape_177_4 (w : go_Wd) (tx : Nat) (Q : Option Value → go_M → Prop) (μ : PM) (a0 : Int32) (v2 : Int32) (v3 : Int32) (v4 : Int32) (v5 : Int32)    (out : (Int32 × Int32 × PM) ⊕ ((Int32 × PM) ⊕ (PM))) (h : jjX6_splitTape_177_4 μ a0 v2 v3 v4 v5  = some out) (hK : go_out (ggX6_splitTape_4 w tx Q a0 ) (eeX6_splitTape_4 w tx Q a0 ) out) : Go w 6 0 0 mtX6_splitTape 177 [(0, .ref 372), (1, .int a0), (2, .int v2), (3, .int v3), (4, .int v4), (5, .int v5)] [] (go_mk tx μ) (go_Z w Q) := by
  unfold jjX6_splitTape_177_4 at h
  refine go_iconst (v := 0) dX6_splitTape_177 (by decide) ?_
  refine go_pick [0, 1, 2, 3, 4, 5] rfl ?_
  exact jqX6_splitTape_178_4 w tx Q μ a0 v2 v3 v4 v5  0 (Or.inl rfl) _ h hK
set_option maxRecDepth 20000 in
set_option maxHeartbeats 4000000 in
theorem lqX6_splitTape_106 (w : go_Wd) (tx : Nat) (Q : Option Value → go_M → Prop) (μ : PM) (a0 : Int32) (v2 : Int32) (v3 : Int32)  (v5 : Int32) (out : (Int32) ⊕ ((Int32) ⊕ ((Int32 × Int32 × PM) ⊕ ((Int32 × PM) ⊕ (PM))))) (h : lbX6_splitTape_106 μ a0 v2 v3 v5 = some out) (hK : go_out (ggX6_splitTape_106 w tx Q μ a0 v2 v3) (eeX6_splitTape_106 w tx Q μ a0 v2 v3) out) : ggX6_splitTape_106 w tx Q μ a0 v2 v3 v5 := by
  unfold lbX6_splitTape_106 at h
  show Go w 6 0 0 mtX6_splitTape 106 [(0, .ref 372), (1, .int a0), (2, .int v2), (3, .int v3), (5, .int v5)] [] (go_mk tx μ) (go_Z w Q)
  refine go_iload dX6_splitTape_106 4 rfl ?_
  refine go_iload_n dX6_splitTape_108 1 rfl ?_
  refine go_icmp_ge 131 dX6_splitTape_109 (by decide) (fun hc => ?_) (fun hc => ?_)
  · have h := go_ifp hc h
    cases h
    have hK : Go w 6 0 0 mtX6_splitTape 131 [(0, .ref 372), (1, .int a0), (2, .int v2), (3, .int v3), (5, .int v5)] [] (go_mk tx μ) (go_Z w Q) := hK
    exact go_pick [0, 1, 2, 3, 4] rfl hK
  · have h := go_ifn hc h
    refine go_aload_n dX6_splitTape_112 0 rfl ?_
    refine pp_getR dX6_splitTape_113 ff_X6_21 (Or.inr ⟨_, rfl⟩) sh_372 rf_372_0 ?_
    refine go_iload dX6_splitTape_116 4 rfl ?_
    obtain ⟨hz10, h⟩ := go_chk_e h
    refine pp_ild dX6_splitTape_118 sh_371 hz10 ?_
    refine pp_callS (as := [.int (μ.1 371 v5.toNatClampNeg)]) (st := []) (rv := (some (.int (fX6_isDigit (μ.1 371 v5.toNatClampNeg))))) (μ1 := μ) (st1 := [.int (fX6_isDigit (μ.1 371 v5.toNatClampNeg))]) dX6_splitTape_119 ll_X6_67 (ctX6_isDigit  rfl) rfl (Nat.le_of_ble_eq_true rfl) (Nat.le_of_ble_eq_true rfl) (go_Z_up w _) rfl rfl ?_
    refine go_if_eq 131 dX6_splitTape_122 (by decide) (fun hc => ?_) (fun hc => ?_)
    · have h := go_ifp hc h
      cases h
      have hK : Go w 6 0 0 mtX6_splitTape 131 [(0, .ref 372), (1, .int a0), (2, .int v2), (3, .int v3), (5, .int v5)] [] (go_mk tx μ) (go_Z w Q) := hK
      exact go_pick [0, 1, 2, 3, 4] rfl hK
    · have h := go_ifn hc h
      refine go_iinc (v := (v5 + 1)) dX6_splitTape_125 4 rfl rfl (by decide) rfl ?_
      show Go w 6 0 0 mtX6_splitTape 128 [(5, .int (v5 + 1)), (0, .ref 372), (1, .int a0), (2, .int v2), (3, .int v3)] [] (go_mk tx μ) (go_Z w Q)
      refine go_goto 106 dX6_splitTape_128 (by decide) ?_
      cases h
      have hK : Go w 6 0 0 mtX6_splitTape 106 [(0, .ref 372), (1, .int a0), (2, .int v2), (3, .int v3), (5, .int (v5 + 1))] [] (go_mk tx μ) (go_Z w Q) := hK
      exact go_pick [1, 2, 3, 4, 0] rfl hK
set_option maxRecDepth 20000 in
set_option maxHeartbeats 4000000 in
theorem jqX6_splitTape_131_4 (w : go_Wd) (tx : Nat) (Q : Option Value → go_M → Prop) (μ : PM) (a0 : Int32) (v2 : Int32) (v3 : Int32) (v5 : Int32)    (out : (Int32 × Int32 × PM) ⊕ ((Int32 × PM) ⊕ (PM))) (h : jjX6_splitTape_131_4 μ a0 v2 v3 v5  = some out) (hK : go_out (ggX6_splitTape_4 w tx Q a0 ) (eeX6_splitTape_4 w tx Q a0 ) out) : Go w 6 0 0 mtX6_splitTape 131 [(0, .ref 372), (1, .int a0), (2, .int v2), (3, .int v3), (5, .int v5)] [] (go_mk tx μ) (go_Z w Q) := by
  unfold jjX6_splitTape_131_4 at h
  refine go_aload_n dX6_splitTape_131 0 rfl ?_
  refine pp_getR dX6_splitTape_132 ff_X6_9 (Or.inr ⟨_, rfl⟩) sh_372 rf_372_1 ?_
  refine go_iload_n dX6_splitTape_135 2 rfl ?_
  refine go_bipush (v := 32) dX6_splitTape_136 (by decide) ?_
  obtain ⟨hz14, h⟩ := go_chk_e h
  obtain ⟨μ13, hμ13, h⟩ := go_let_e h
  refine pp_ist dX6_splitTape_138 sh_373 hz14 hμ13 ?_
  refine go_aload_n dX6_splitTape_139 0 rfl ?_
  refine pp_getR dX6_splitTape_140 ff_X6_18 (Or.inr ⟨_, rfl⟩) sh_372 rf_372_3 ?_
  refine go_iload_n dX6_splitTape_143 2 rfl ?_
  refine go_aload_n dX6_splitTape_144 0 rfl ?_
  refine go_iload_n dX6_splitTape_145 3 rfl ?_
  refine go_iload dX6_splitTape_146 4 rfl ?_
  obtain ⟨q15, hq15, h⟩ := go_bind h
  refine pp_callV (as := [.int v3, .int v5]) (st := [.int v2, .ref 375]) (rv := (some (.int q15))) (μ1 := μ13) (st1 := [.int q15, .int v2, .ref 375]) dX6_splitTape_148 ll_X6_70 sh_372 (by decide) rfl (ctX6_valueOf  hq15) rfl (Nat.le_of_ble_eq_true rfl) (Nat.le_of_ble_eq_true rfl) (go_Z_up w _) rfl rfl ?_
  obtain ⟨hz17, h⟩ := go_chk_e h
  obtain ⟨μ16, hμ16, h⟩ := go_let_e h
  refine pp_ist dX6_splitTape_151 sh_375 hz17 hμ16 ?_
  refine go_goto 225 dX6_splitTape_152 (by decide) ?_
  refine go_pick [0, 1, 2, 3, 4] rfl ?_
  exact jqX6_splitTape_225_4 w tx Q μ16 a0 v2 v3 v5    _ h hK
set_option maxRecDepth 20000 in
set_option maxHeartbeats 4000000 in
theorem lqX6_splitTape_57 (w : go_Wd) (tx : Nat) (Q : Option Value → go_M → Prop) (μ : PM) (a0 : Int32) (v2 : Int32) (v3 : Int32)  (v5 : Int32) (out : (Int32) ⊕ ((Int32) ⊕ ((Int32 × Int32 × PM) ⊕ ((Int32 × PM) ⊕ (PM))))) (h : lbX6_splitTape_57 μ a0 v2 v3 v5 = some out) (hK : go_out (ggX6_splitTape_57 w tx Q μ a0 v2 v3) (eeX6_splitTape_57 w tx Q μ a0 v2 v3) out) : ggX6_splitTape_57 w tx Q μ a0 v2 v3 v5 := by
  unfold lbX6_splitTape_57 at h
  show Go w 6 0 0 mtX6_splitTape 57 [(0, .ref 372), (1, .int a0), (2, .int v2), (3, .int v3), (5, .int v5)] [] (go_mk tx μ) (go_Z w Q)
  refine go_iload dX6_splitTape_57 4 rfl ?_
  refine go_iload_n dX6_splitTape_59 1 rfl ?_
  refine go_icmp_ge 82 dX6_splitTape_60 (by decide) (fun hc => ?_) (fun hc => ?_)
  · have h := go_ifp hc h
    cases h
    have hK : Go w 6 0 0 mtX6_splitTape 82 [(0, .ref 372), (1, .int a0), (2, .int v2), (3, .int v3), (5, .int v5)] [] (go_mk tx μ) (go_Z w Q) := hK
    exact go_pick [0, 1, 2, 3, 4] rfl hK
  · have h := go_ifn hc h
    refine go_aload_n dX6_splitTape_63 0 rfl ?_
    refine pp_getR dX6_splitTape_64 ff_X6_21 (Or.inr ⟨_, rfl⟩) sh_372 rf_372_0 ?_
    refine go_iload dX6_splitTape_67 4 rfl ?_
    obtain ⟨hz18, h⟩ := go_chk_e h
    refine pp_ild dX6_splitTape_69 sh_371 hz18 ?_
    refine pp_callS (as := [.int (μ.1 371 v5.toNatClampNeg)]) (st := []) (rv := (some (.int (fX6_isLetter (μ.1 371 v5.toNatClampNeg))))) (μ1 := μ) (st1 := [.int (fX6_isLetter (μ.1 371 v5.toNatClampNeg))]) dX6_splitTape_70 ll_X6_60 (ctX6_isLetter  rfl) rfl (Nat.le_of_ble_eq_true rfl) (Nat.le_of_ble_eq_true rfl) (go_Z_up w _) rfl rfl ?_
    refine go_if_eq 82 dX6_splitTape_73 (by decide) (fun hc => ?_) (fun hc => ?_)
    · have h := go_ifp hc h
      cases h
      have hK : Go w 6 0 0 mtX6_splitTape 82 [(0, .ref 372), (1, .int a0), (2, .int v2), (3, .int v3), (5, .int v5)] [] (go_mk tx μ) (go_Z w Q) := hK
      exact go_pick [0, 1, 2, 3, 4] rfl hK
    · have h := go_ifn hc h
      refine go_iinc (v := (v5 + 1)) dX6_splitTape_76 4 rfl rfl (by decide) rfl ?_
      show Go w 6 0 0 mtX6_splitTape 79 [(5, .int (v5 + 1)), (0, .ref 372), (1, .int a0), (2, .int v2), (3, .int v3)] [] (go_mk tx μ) (go_Z w Q)
      refine go_goto 57 dX6_splitTape_79 (by decide) ?_
      cases h
      have hK : Go w 6 0 0 mtX6_splitTape 57 [(0, .ref 372), (1, .int a0), (2, .int v2), (3, .int v3), (5, .int (v5 + 1))] [] (go_mk tx μ) (go_Z w Q) := hK
      exact go_pick [1, 2, 3, 4, 0] rfl hK
set_option maxRecDepth 20000 in
set_option maxHeartbeats 4000000 in
theorem jqX6_splitTape_82_4 (w : go_Wd) (tx : Nat) (Q : Option Value → go_M → Prop) (μ : PM) (a0 : Int32) (v2 : Int32) (v3 : Int32) (v5 : Int32)    (out : (Int32 × Int32 × PM) ⊕ ((Int32 × PM) ⊕ (PM))) (h : jjX6_splitTape_82_4 μ a0 v2 v3 v5  = some out) (hK : go_out (ggX6_splitTape_4 w tx Q a0 ) (eeX6_splitTape_4 w tx Q a0 ) out) : Go w 6 0 0 mtX6_splitTape 82 [(0, .ref 372), (1, .int a0), (2, .int v2), (3, .int v3), (5, .int v5)] [] (go_mk tx μ) (go_Z w Q) := by
  unfold jjX6_splitTape_82_4 at h
  refine go_aload_n dX6_splitTape_82 0 rfl ?_
  refine pp_getR dX6_splitTape_83 ff_X6_9 (Or.inr ⟨_, rfl⟩) sh_372 rf_372_1 ?_
  refine go_iload_n dX6_splitTape_86 2 rfl ?_
  refine go_aload_n dX6_splitTape_87 0 rfl ?_
  refine go_iload_n dX6_splitTape_88 3 rfl ?_
  refine go_iload dX6_splitTape_89 4 rfl ?_
  obtain ⟨q21, hq21, h⟩ := go_bind h
  refine pp_callV (as := [.int v3, .int v5]) (st := [.int v2, .ref 373]) (rv := (some (.int q21))) (μ1 := μ) (st1 := [.int q21, .int v2, .ref 373]) dX6_splitTape_91 ll_X6_64 sh_372 (by decide) rfl (ctX6_findWord  hq21) rfl (Nat.le_of_ble_eq_true rfl) (Nat.le_of_ble_eq_true rfl) (go_Z_up w _) rfl rfl ?_
  obtain ⟨hz23, h⟩ := go_chk_e h
  obtain ⟨μ22, hμ22, h⟩ := go_let_e h
  refine pp_ist dX6_splitTape_94 sh_373 hz23 hμ22 ?_
  refine go_goto 225 dX6_splitTape_95 (by decide) ?_
  refine go_pick [0, 1, 2, 3, 4] rfl ?_
  exact jqX6_splitTape_225_4 w tx Q μ22 a0 v2 v3 v5    _ h hK
set_option maxRecDepth 20000 in
set_option maxHeartbeats 4000000 in
theorem lqX6_splitTape_4 (w : go_Wd) (tx : Nat) (Q : Option Value → go_M → Prop) (a0 : Int32)   (v2 : Int32) (v3 : Int32) (μ : PM) (out : (Int32 × Int32 × PM) ⊕ ((Int32 × PM) ⊕ (PM))) (h : lbX6_splitTape_4 a0  v2 v3 μ = some out) (hK : go_out (ggX6_splitTape_4 w tx Q a0 ) (eeX6_splitTape_4 w tx Q a0 ) out) : ggX6_splitTape_4 w tx Q a0  (v2, v3, μ) := by
  unfold lbX6_splitTape_4 at h
  show Go w 6 0 0 mtX6_splitTape 4 [(0, .ref 372), (1, .int a0), (2, .int v2), (3, .int v3)] [] (go_mk tx μ) (go_Z w Q)
  refine go_iload_n dX6_splitTape_4 3 rfl ?_
  refine go_iload_n dX6_splitTape_5 1 rfl ?_
  refine go_icmp_ge 241 dX6_splitTape_6 (by decide) (fun hc => ?_) (fun hc => ?_)
  · have h := go_ifp hc h
    cases h
    have hK : Go w 6 0 0 mtX6_splitTape 241 [(0, .ref 372), (1, .int a0), (2, .int v2)] [] (go_mk tx μ) (go_Z w Q) := hK
    exact go_pick [0, 1, 2] rfl hK
  · have h := go_ifn hc h
    refine go_iload_n dX6_splitTape_9 2 rfl ?_
    refine go_sipush (v := 300) dX6_splitTape_10 (by decide) ?_
    refine go_icmp_ge 241 dX6_splitTape_13 (by decide) (fun hc => ?_) (fun hc => ?_)
    · have h := go_ifp hc h
      cases h
      have hK : Go w 6 0 0 mtX6_splitTape 241 [(0, .ref 372), (1, .int a0), (2, .int v2)] [] (go_mk tx μ) (go_Z w Q) := hK
      exact go_pick [0, 1, 2] rfl hK
    · have h := go_ifn hc h
      refine go_aload_n dX6_splitTape_16 0 rfl ?_
      refine pp_getR dX6_splitTape_17 ff_X6_21 (Or.inr ⟨_, rfl⟩) sh_372 rf_372_0 ?_
      refine go_iload_n dX6_splitTape_20 3 rfl ?_
      obtain ⟨hz1, h⟩ := go_chk_e h
      refine pp_ild dX6_splitTape_21 sh_371 hz1 ?_
      obtain ⟨x2, hx2, h⟩ := go_let_e h
      refine go_top hx2 ?_
      refine go_istore dX6_splitTape_22 (by decide) rfl ?_
      show Go w 6 0 0 mtX6_splitTape 24 [(4, .int x2), (0, .ref 372), (1, .int a0), (2, .int v2), (3, .int v3)] [] (go_mk tx μ) (go_Z w Q)
      refine go_iload_n dX6_splitTape_24 4 rfl ?_
      refine go_iconst (v := 1) dX6_splitTape_25 (by decide) ?_
      refine go_iadd dX6_splitTape_26 ?_
      refine go_istore dX6_splitTape_27 (by decide) rfl ?_
      show Go w 6 0 0 mtX6_splitTape 29 [(5, .int (v3 + 1)), (4, .int x2), (0, .ref 372), (1, .int a0), (2, .int v2), (3, .int v3)] [] (go_mk tx μ) (go_Z w Q)
      refine go_iload dX6_splitTape_29 1 rfl ?_
      refine go_bipush (v := 32) dX6_splitTape_31 (by decide) ?_
      refine go_icmp_eq 43 dX6_splitTape_33 (by decide) (fun hc => ?_) (fun hc => ?_)
      · have h := go_ifp hc h
        refine go_pick [2, 3, 4, 0] rfl ?_
        exact jqX6_splitTape_43_4 w tx Q μ a0 v2 ((v3 + 1))    _ h hK
      · have h := go_ifn hc h
        refine go_iload dX6_splitTape_36 1 rfl ?_
        refine go_bipush (v := 10) dX6_splitTape_38 (by decide) ?_
        refine go_icmp_ne 49 dX6_splitTape_40 (by decide) (fun hc => ?_) (fun hc => ?_)
        · have h := go_ifn hc h
          refine go_iload dX6_splitTape_49 1 rfl ?_
          refine pp_callS (as := [.int x2]) (st := []) (rv := (some (.int (fX6_isLetter x2)))) (μ1 := μ) (st1 := [.int (fX6_isLetter x2)]) dX6_splitTape_51 ll_X6_60 (ctX6_isLetter  rfl) rfl (Nat.le_of_ble_eq_true rfl) (Nat.le_of_ble_eq_true rfl) (go_Z_up w _) rfl rfl ?_
          refine go_if_eq 98 dX6_splitTape_54 (by decide) (fun hc => ?_) (fun hc => ?_)
          · have h := go_ifp hc h
            refine go_iload dX6_splitTape_98 1 rfl ?_
            refine pp_callS (as := [.int x2]) (st := []) (rv := (some (.int (fX6_isDigit x2)))) (μ1 := μ) (st1 := [.int (fX6_isDigit x2)]) dX6_splitTape_100 ll_X6_67 (ctX6_isDigit  rfl) rfl (Nat.le_of_ble_eq_true rfl) (Nat.le_of_ble_eq_true rfl) (go_Z_up w _) rfl rfl ?_
            refine go_if_eq 155 dX6_splitTape_103 (by decide) (fun hc => ?_) (fun hc => ?_)
            · have h := go_ifp hc h
              refine go_iload dX6_splitTape_155 0 rfl ?_
              refine go_iload_n dX6_splitTape_157 3 rfl ?_
              refine go_icmp_ge 177 dX6_splitTape_158 (by decide) (fun hc => ?_) (fun hc => ?_)
              · have h := go_ifp hc h
                refine go_pick [2, 3, 4, 5, 1, 0] rfl ?_
                exact jqX6_splitTape_177_4 w tx Q μ a0 v2 v3 x2 ((v3 + 1))    _ h hK
              · have h := go_ifn hc h
                refine go_aload_n dX6_splitTape_161 2 rfl ?_
                refine pp_getR dX6_splitTape_162 ff_X6_21 (Or.inr ⟨_, rfl⟩) sh_372 rf_372_0 ?_
                refine go_iload dX6_splitTape_165 0 rfl ?_
                obtain ⟨hz9, h⟩ := go_chk_e h
                refine pp_ild dX6_splitTape_167 sh_371 hz9 ?_
                refine go_bipush (v := 61) dX6_splitTape_168 (by decide) ?_
                refine go_icmp_ne 177 dX6_splitTape_170 (by decide) (fun hc => ?_) (fun hc => ?_)
                · have h := go_ifn hc h
                  refine go_pick [2, 3, 4, 5, 1, 0] rfl ?_
                  exact jqX6_splitTape_177_4 w tx Q μ a0 v2 v3 x2 ((v3 + 1))    _ h hK
                · have h := go_ifp hc h
                  refine go_iconst (v := 1) dX6_splitTape_173 (by decide) ?_
                  refine go_goto 178 dX6_splitTape_174 (by decide) ?_
                  refine go_pick [2, 3, 4, 5, 1, 0] rfl ?_
                  exact jqX6_splitTape_178_4 w tx Q μ a0 v2 v3 x2 ((v3 + 1))  1 (Or.inr rfl) _ h hK
            · have h := go_ifn hc h
              obtain ⟨ρ11, hρ11, h⟩ := go_bind h
              refine go_pick [2, 3, 4, 5, 0] rfl ?_
              refine go_lp (G := ggX6_splitTape_106 w tx Q μ a0 v2 v3) (E := eeX6_splitTape_106 w tx Q μ a0 v2 v3) (fun s out h hK => lqX6_splitTape_106 w tx Q μ a0 v2 v3  s out h hK) go_fuel (v3 + 1) ρ11 hρ11 ?_
              rcases ρ11 with e12 | y
              · have h := go_csl h
                show Go w 6 0 0 mtX6_splitTape 131 [(0, .ref 372), (1, .int a0), (2, .int v2), (3, .int v3), (5, .int e12)] [] (go_mk tx μ) (go_Z w Q)
                refine go_pick [0, 1, 2, 3, 4] rfl ?_
                exact jqX6_splitTape_131_4 w tx Q μ a0 v2 v3 e12    _ h hK
              · have h := go_csr h
                cases h
                exact hK
          · have h := go_ifn hc h
            obtain ⟨ρ19, hρ19, h⟩ := go_bind h
            refine go_pick [2, 3, 4, 5, 0] rfl ?_
            refine go_lp (G := ggX6_splitTape_57 w tx Q μ a0 v2 v3) (E := eeX6_splitTape_57 w tx Q μ a0 v2 v3) (fun s out h hK => lqX6_splitTape_57 w tx Q μ a0 v2 v3  s out h hK) go_fuel (v3 + 1) ρ19 hρ19 ?_
            rcases ρ19 with e20 | y
            · have h := go_csl h
              show Go w 6 0 0 mtX6_splitTape 82 [(0, .ref 372), (1, .int a0), (2, .int v2), (3, .int v3), (5, .int e20)] [] (go_mk tx μ) (go_Z w Q)
              refine go_pick [0, 1, 2, 3, 4] rfl ?_
              exact jqX6_splitTape_82_4 w tx Q μ a0 v2 v3 e20    _ h hK
            · have h := go_csr h
              cases h
              exact hK
        · have h := go_ifp hc h
          refine go_pick [2, 3, 4, 0] rfl ?_
          exact jqX6_splitTape_43_4 w tx Q μ a0 v2 ((v3 + 1))    _ h hK
set_option maxRecDepth 20000 in
set_option maxHeartbeats 4000000 in
theorem jqX6_splitTape_241 (w : go_Wd) (tx : Nat) (Q : Option Value → go_M → Prop) (μ : PM) (a0 : Int32) (v2 : Int32)    (out : PM) (h : jjX6_splitTape_241 μ a0 v2  = some out) (hK : Q none (go_mk tx out)) : Go w 6 0 0 mtX6_splitTape 241 [(0, .ref 372), (1, .int a0), (2, .int v2)] [] (go_mk tx μ) (go_Z w Q) := by
  unfold jjX6_splitTape_241 at h
  refine go_aload_n dX6_splitTape_241 0 rfl ?_
  refine pp_getR dX6_splitTape_242 ff_X6_9 (Or.inr ⟨_, rfl⟩) sh_372 rf_372_1 ?_
  refine go_iload_n dX6_splitTape_245 2 rfl ?_
  refine go_bipush (v := 53) dX6_splitTape_246 (by decide) ?_
  obtain ⟨hz27, h⟩ := go_chk_e h
  obtain ⟨μ26, hμ26, h⟩ := go_let_e h
  refine pp_ist dX6_splitTape_248 sh_373 hz27 hμ26 ?_
  refine go_aload_n dX6_splitTape_249 0 rfl ?_
  refine pp_getR dX6_splitTape_250 ff_X6_15 (Or.inr ⟨_, rfl⟩) sh_372 rf_372_2 ?_
  refine go_iload_n dX6_splitTape_253 2 rfl ?_
  refine go_iload_n dX6_splitTape_254 1 rfl ?_
  obtain ⟨hz29, h⟩ := go_chk_e h
  obtain ⟨μ28, hμ28, h⟩ := go_let_e h
  refine pp_ist dX6_splitTape_255 sh_374 hz29 hμ28 ?_
  cases h
  exact go_vret dX6_splitTape_256 rfl hK
set_option maxRecDepth 20000 in
set_option maxHeartbeats 4000000 in
theorem cmX6_splitTape (w : go_Wd) (tx : Nat) (Q : Option Value → go_M → Prop) (μ : PM) (a0 : Int32) (out : PM) (h : fX6_splitTape μ a0 = some out) (hK : Q none (go_mk tx out)) : Go w 6 0 0 mtX6_splitTape 0 [(0, .ref 372), (1, .int a0)] [] (go_mk tx μ) (go_Z w Q) := by
  unfold fX6_splitTape at h
  refine go_iconst (v := 0) dX6_splitTape_0 (by decide) ?_
  refine go_istore_n dX6_splitTape_1 (by decide) rfl ?_
  show Go w 6 0 0 mtX6_splitTape 2 [(2, .int 0), (0, .ref 372), (1, .int a0)] [] (go_mk tx μ) (go_Z w Q)
  refine go_iconst (v := 0) dX6_splitTape_2 (by decide) ?_
  refine go_istore_n dX6_splitTape_3 (by decide) rfl ?_
  show Go w 6 0 0 mtX6_splitTape 4 [(3, .int 0), (2, .int 0), (0, .ref 372), (1, .int a0)] [] (go_mk tx μ) (go_Z w Q)
  obtain ⟨ρ24, hρ24, h⟩ := go_bind h
  refine go_pick [2, 3, 1, 0] rfl ?_
  refine go_lp (G := ggX6_splitTape_4 w tx Q a0 ) (E := eeX6_splitTape_4 w tx Q a0 ) (fun s out h hK => lqX6_splitTape_4 w tx Q a0   s.1 s.2.1 s.2.2 out h hK) go_fuel (0, 0, μ) ρ24 hρ24 ?_
  rcases ρ24 with e25 | y
  · have h := go_csl h
    show Go w 6 0 0 mtX6_splitTape 241 [(0, .ref 372), (1, .int a0), (2, .int e25.1)] [] (go_mk tx e25.2) (go_Z w Q)
    refine go_pick [0, 1, 2] rfl ?_
    exact jqX6_splitTape_241 w tx Q e25.2 a0 e25.1    _ h hK
  · have h := go_csr h
    cases h
    exact hK
theorem ctX6_splitTape {w : go_Wd} {tx : Nat} {μ : PM} {a0 : Int32} {μ1 : PM}  (h : fX6_splitTape μ a0 = some μ1) : Ct w 6 0 0 mtX6_splitTape [.ref 372, .int a0] (go_mk tx μ) (fun r' M' => r' = none ∧ M' = go_mk tx μ1) :=
  go_entry rfl (by decide) (Nat.le_of_ble_eq_true rfl) (cmX6_splitTape w tx _ μ a0 _ h ⟨rfl, rfl⟩)