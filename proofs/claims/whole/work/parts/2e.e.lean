def lbX5_upperWithout_5 (μ : PM) (a0 : Int32)  (v2 : Int64) (v4 : Int32) : Option ((Int64 × Int32) ⊕ (Int64)) :=
  (if 10 ≤ v4 then some (.inr (v2)) else (if (fX11_hasBit ((μ.1 399 1) &&& (a0 ^^^ (-1))) v4) = 0 then some (.inl (v2, (v4 + 1))) else go_chk v4 10 <| go_let ((v2 * ((μ.1 400 v4.toNatClampNeg) : Int32).toInt64)) fun x2 => some (.inl (x2, (v4 + 1)))))
def fX5_upperWithout (μ : PM) (a0 : Int32) : Option (Int64) :=
  ((lp (fun s => lbX5_upperWithout_5 μ a0 s.1 s.2) go_fuel (1, 0)).bind fun ρ3 => some ρ3)
def ggX5_upperWithout_5 (w : go_Wd) (tx : Nat) (Q : Option Value → go_M → Prop) (μ : PM) (a0 : Int32)  (s : Int64 × Int32) : Prop := Go w 1 0 0 mtX5_upperWithout 5 [(0, .ref 399), (1, .int a0), (2, .long s.1), (4, .int s.2)] [] (go_mk tx μ) (go_Z w Q)
def eeX5_upperWithout_5 (w : go_Wd) (tx : Nat) (Q : Option Value → go_M → Prop) (μ : PM) (a0 : Int32)  (y : Int64) : Prop := Q (some (.long y)) (go_mk tx μ)
set_option maxRecDepth 20000 in
set_option maxHeartbeats 4000000 in
theorem lqX5_upperWithout_5 (w : go_Wd) (tx : Nat) (Q : Option Value → go_M → Prop) (μ : PM) (a0 : Int32)   (v2 : Int64) (v4 : Int32) (out : (Int64 × Int32) ⊕ (Int64)) (h : lbX5_upperWithout_5 μ a0  v2 v4 = some out) (hK : go_out (ggX5_upperWithout_5 w tx Q μ a0 ) (eeX5_upperWithout_5 w tx Q μ a0 ) out) : ggX5_upperWithout_5 w tx Q μ a0  (v2, v4) := by
  unfold lbX5_upperWithout_5 at h
  show Go w 1 0 0 mtX5_upperWithout 5 [(0, .ref 399), (1, .int a0), (2, .long v2), (4, .int v4)] [] (go_mk tx μ) (go_Z w Q)
  refine go_iload dX5_upperWithout_5 3 rfl ?_
  refine go_bipush (v := 10) dX5_upperWithout_7 (by decide) ?_
  refine go_icmp_ge 45 dX5_upperWithout_9 (by decide) (fun hc => ?_) (fun hc => ?_)
  · have h := go_ifp hc h
    refine go_lload_n dX5_upperWithout_45 2 rfl ?_
    cases h
    exact go_lret dX5_upperWithout_46 rfl hK
  · have h := go_ifn hc h
    refine go_aload_n dX5_upperWithout_12 0 rfl ?_
    refine pp_getI dX5_upperWithout_13 ff_X5_19 (by decide) sh_399 ?_
    refine go_iload_n dX5_upperWithout_16 1 rfl ?_
    refine go_iconst (v := (-1)) dX5_upperWithout_17 (by decide) ?_
    refine go_ixor dX5_upperWithout_18 ?_
    refine go_iand dX5_upperWithout_19 ?_
    refine go_iload dX5_upperWithout_20 3 rfl ?_
    refine pp_callSN (as := [.int ((μ.1 399 1) &&& (a0 ^^^ (-1))), .int v4]) (st := []) (rv := (some (.int (fX11_hasBit ((μ.1 399 1) &&& (a0 ^^^ (-1))) v4)))) (μ1 := μ) (st1 := [.int (fX11_hasBit ((μ.1 399 1) &&& (a0 ^^^ (-1))) v4)]) dX5_upperWithout_22 ll_X5_29 (ctX11_hasBit  rfl) rfl (Nat.le_of_ble_eq_true rfl) (Nat.le_of_ble_eq_true rfl) (go_Z_up w _) rfl rfl ?_
    refine go_if_eq 39 dX5_upperWithout_25 (by decide) (fun hc => ?_) (fun hc => ?_)
    · have h := go_ifp hc h
      refine go_iinc (v := (v4 + 1)) dX5_upperWithout_39 3 rfl rfl (by decide) rfl ?_
      show Go w 1 0 0 mtX5_upperWithout 42 [(4, .int (v4 + 1)), (0, .ref 399), (1, .int a0), (2, .long v2)] [] (go_mk tx μ) (go_Z w Q)
      refine go_goto 5 dX5_upperWithout_42 (by decide) ?_
      cases h
      have hK : Go w 1 0 0 mtX5_upperWithout 5 [(0, .ref 399), (1, .int a0), (2, .long v2), (4, .int (v4 + 1))] [] (go_mk tx μ) (go_Z w Q) := hK
      exact go_pick [1, 2, 3, 0] rfl hK
    · have h := go_ifn hc h
      refine go_lload_n dX5_upperWithout_28 2 rfl ?_
      refine go_aload_n dX5_upperWithout_29 0 rfl ?_
      refine pp_getR dX5_upperWithout_30 ff_X5_9 (Or.inr ⟨_, rfl⟩) sh_399 rf_399_2 ?_
      refine go_iload dX5_upperWithout_33 3 rfl ?_
      obtain ⟨hz1, h⟩ := go_chk_e h
      refine pp_ild dX5_upperWithout_35 sh_400 hz1 ?_
      refine go_i2l dX5_upperWithout_36 ?_
      refine go_lmul dX5_upperWithout_37 ?_
      obtain ⟨x2, hx2, h⟩ := go_let_e h
      refine go_topl hx2 ?_
      refine go_lstore_n dX5_upperWithout_38 (by decide) rfl ?_
      show Go w 1 0 0 mtX5_upperWithout 39 [(2, .long x2), (0, .ref 399), (1, .int a0), (4, .int v4)] [] (go_mk tx μ) (go_Z w Q)
      refine go_iinc (v := (v4 + 1)) dX5_upperWithout_39 3 rfl rfl (by decide) rfl ?_
      show Go w 1 0 0 mtX5_upperWithout 42 [(4, .int (v4 + 1)), (2, .long x2), (0, .ref 399), (1, .int a0)] [] (go_mk tx μ) (go_Z w Q)
      refine go_goto 5 dX5_upperWithout_42 (by decide) ?_
      cases h
      have hK : Go w 1 0 0 mtX5_upperWithout 5 [(0, .ref 399), (1, .int a0), (2, .long x2), (4, .int (v4 + 1))] [] (go_mk tx μ) (go_Z w Q) := hK
      exact go_pick [2, 3, 1, 0] rfl hK
set_option maxRecDepth 20000 in
set_option maxHeartbeats 4000000 in
theorem cmX5_upperWithout (w : go_Wd) (tx : Nat) (Q : Option Value → go_M → Prop) (μ : PM) (a0 : Int32) (out : Int64) (h : fX5_upperWithout μ a0 = some out) (hK : Q (some (.long out)) (go_mk tx μ)) : Go w 1 0 0 mtX5_upperWithout 0 [(0, .ref 399), (1, .int a0)] [] (go_mk tx μ) (go_Z w Q) := by
  unfold fX5_upperWithout at h
  refine go_lconst (v := 1) dX5_upperWithout_0 (by decide) ?_
  refine go_lstore_n dX5_upperWithout_1 (by decide) rfl ?_
  show Go w 1 0 0 mtX5_upperWithout 2 [(2, .long 1), (0, .ref 399), (1, .int a0)] [] (go_mk tx μ) (go_Z w Q)
  refine go_iconst (v := 0) dX5_upperWithout_2 (by decide) ?_
  refine go_istore dX5_upperWithout_3 (by decide) rfl ?_
  show Go w 1 0 0 mtX5_upperWithout 5 [(4, .int 0), (2, .long 1), (0, .ref 399), (1, .int a0)] [] (go_mk tx μ) (go_Z w Q)
  obtain ⟨ρ3, hρ3, h⟩ := go_bind h
  refine go_pick [2, 3, 1, 0] rfl ?_
  refine go_lp (G := ggX5_upperWithout_5 w tx Q μ a0 ) (E := eeX5_upperWithout_5 w tx Q μ a0 ) (fun s out h hK => lqX5_upperWithout_5 w tx Q μ a0   s.1 s.2 out h hK) go_fuel (1, 0) ρ3 hρ3 ?_
  cases h
  exact hK
theorem ctX5_upperWithout {w : go_Wd} {tx : Nat} {μ : PM} {a0 : Int32} {r : Int64}  (h : fX5_upperWithout μ a0 = some r) : Ct w 1 0 0 mtX5_upperWithout [.ref 399, .int a0] (go_mk tx μ) (fun r' M' => r' = some (.long r) ∧ M' = go_mk tx μ) :=
  go_entry rfl (by decide) (Nat.le_of_ble_eq_true rfl) (cmX5_upperWithout w tx _ μ a0 _ h ⟨rfl, rfl⟩)
def lbX5_lowerWithout_15 (μ : PM) (a0 : Int32)  (v2 : Int64) (v4 : Int32) : Option ((Int64 × Int32) ⊕ (Int64)) :=
  (if v4 ≤ 0 then some (.inr (v2)) else some (.inl ((v2 * 10), (v4 + (-1)))))
def fX5_lowerWithout (μ : PM) (a0 : Int32) : Option (Int64) :=
  go_let ((fJ6_bitCount_0f7a4 ((μ.1 399 1) &&& (a0 ^^^ (-1))))) fun x1 => ((lp (fun s => lbX5_lowerWithout_15 μ a0 s.1 s.2) go_fuel (1, x1)).bind fun ρ2 => some ρ2)
def ggX5_lowerWithout_15 (w : go_Wd) (tx : Nat) (Q : Option Value → go_M → Prop) (μ : PM) (a0 : Int32)  (s : Int64 × Int32) : Prop := Go w 1 0 0 mtX5_lowerWithout 15 [(2, .long s.1), (4, .int s.2)] [] (go_mk tx μ) (go_Z w Q)
def eeX5_lowerWithout_15 (w : go_Wd) (tx : Nat) (Q : Option Value → go_M → Prop) (μ : PM) (a0 : Int32)  (y : Int64) : Prop := Q (some (.long y)) (go_mk tx μ)
set_option maxRecDepth 20000 in
set_option maxHeartbeats 4000000 in
theorem lqX5_lowerWithout_15 (w : go_Wd) (tx : Nat) (Q : Option Value → go_M → Prop) (μ : PM) (a0 : Int32)   (v2 : Int64) (v4 : Int32) (out : (Int64 × Int32) ⊕ (Int64)) (h : lbX5_lowerWithout_15 μ a0  v2 v4 = some out) (hK : go_out (ggX5_lowerWithout_15 w tx Q μ a0 ) (eeX5_lowerWithout_15 w tx Q μ a0 ) out) : ggX5_lowerWithout_15 w tx Q μ a0  (v2, v4) := by
  unfold lbX5_lowerWithout_15 at h
  show Go w 1 0 0 mtX5_lowerWithout 15 [(2, .long v2), (4, .int v4)] [] (go_mk tx μ) (go_Z w Q)
  refine go_iload dX5_lowerWithout_15 1 rfl ?_
  refine go_if_le 32 dX5_lowerWithout_17 (by decide) (fun hc => ?_) (fun hc => ?_)
  · have h := go_ifp hc h
    refine go_lload_n dX5_lowerWithout_32 0 rfl ?_
    cases h
    exact go_lret dX5_lowerWithout_33 rfl hK
  · have h := go_ifn hc h
    refine go_lload_n dX5_lowerWithout_20 0 rfl ?_
    refine go_ldc2 dX5_lowerWithout_21 kl_X5_45 ?_
    refine go_lmul dX5_lowerWithout_24 ?_
    refine go_lstore_n dX5_lowerWithout_25 (by decide) rfl ?_
    show Go w 1 0 0 mtX5_lowerWithout 26 [(2, .long (v2 * 10)), (4, .int v4)] [] (go_mk tx μ) (go_Z w Q)
    refine go_iinc (v := (v4 + (-1))) dX5_lowerWithout_26 1 rfl rfl (by decide) rfl ?_
    show Go w 1 0 0 mtX5_lowerWithout 29 [(4, .int (v4 + (-1))), (2, .long (v2 * 10))] [] (go_mk tx μ) (go_Z w Q)
    refine go_goto 15 dX5_lowerWithout_29 (by decide) ?_
    cases h
    have hK : Go w 1 0 0 mtX5_lowerWithout 15 [(2, .long (v2 * 10)), (4, .int (v4 + (-1)))] [] (go_mk tx μ) (go_Z w Q) := hK
    exact go_pick [1, 0] rfl hK
set_option maxRecDepth 20000 in
set_option maxHeartbeats 4000000 in
theorem cmX5_lowerWithout (w : go_Wd) (tx : Nat) (Q : Option Value → go_M → Prop) (μ : PM) (a0 : Int32) (out : Int64) (h : fX5_lowerWithout μ a0 = some out) (hK : Q (some (.long out)) (go_mk tx μ)) : Go w 1 0 0 mtX5_lowerWithout 0 [(0, .ref 399), (1, .int a0)] [] (go_mk tx μ) (go_Z w Q) := by
  unfold fX5_lowerWithout at h
  refine go_lconst (v := 1) dX5_lowerWithout_0 (by decide) ?_
  refine go_lstore_n dX5_lowerWithout_1 (by decide) rfl ?_
  show Go w 1 0 0 mtX5_lowerWithout 2 [(2, .long 1), (0, .ref 399), (1, .int a0)] [] (go_mk tx μ) (go_Z w Q)
  refine go_aload_n dX5_lowerWithout_2 1 rfl ?_
  refine pp_getI dX5_lowerWithout_3 ff_X5_19 (by decide) sh_399 ?_
  refine go_iload_n dX5_lowerWithout_6 2 rfl ?_
  refine go_iconst (v := (-1)) dX5_lowerWithout_7 (by decide) ?_
  refine go_ixor dX5_lowerWithout_8 ?_
  refine go_iand dX5_lowerWithout_9 ?_
  refine pp_callS (as := [.int ((μ.1 399 1) &&& (a0 ^^^ (-1)))]) (st := []) (rv := (some (.int (fJ6_bitCount_0f7a4 ((μ.1 399 1) &&& (a0 ^^^ (-1))))))) (μ1 := μ) (st1 := [.int (fJ6_bitCount_0f7a4 ((μ.1 399 1) &&& (a0 ^^^ (-1))))]) dX5_lowerWithout_10 ll_X5_39 (ctJ6_bitCount_0f7a4  rfl) rfl (Nat.le_of_ble_eq_true rfl) (Nat.le_of_ble_eq_true rfl) (go_Z_up w _) rfl rfl ?_
  obtain ⟨x1, hx1, h⟩ := go_let_e h
  refine go_top hx1 ?_
  refine go_istore dX5_lowerWithout_13 (by decide) rfl ?_
  show Go w 1 0 0 mtX5_lowerWithout 15 [(4, .int x1), (2, .long 1), (0, .ref 399), (1, .int a0)] [] (go_mk tx μ) (go_Z w Q)
  obtain ⟨ρ2, hρ2, h⟩ := go_bind h
  refine go_pick [1, 0] rfl ?_
  refine go_lp (G := ggX5_lowerWithout_15 w tx Q μ a0 ) (E := eeX5_lowerWithout_15 w tx Q μ a0 ) (fun s out h hK => lqX5_lowerWithout_15 w tx Q μ a0   s.1 s.2 out h hK) go_fuel (1, x1) ρ2 hρ2 ?_
  cases h
  exact hK
theorem ctX5_lowerWithout {w : go_Wd} {tx : Nat} {μ : PM} {a0 : Int32} {r : Int64}  (h : fX5_lowerWithout μ a0 = some r) : Ct w 1 0 0 mtX5_lowerWithout [.ref 399, .int a0] (go_mk tx μ) (fun r' M' => r' = some (.long r) ∧ M' = go_mk tx μ) :=
  go_entry rfl (by decide) (Nat.le_of_ble_eq_true rfl) (cmX5_lowerWithout w tx _ μ a0 _ h ⟨rfl, rfl⟩)
def jjX5_fewestToClear_72_10 (μ : PM) (a0 : Int32) (v2 : Int32) (v3 : Int32) (v4 : Int32)  : Option ((Int32 × Int32 × Int32) ⊕ (Int32)) :=
  go_let (((v3 - (μ.1 399 1)) &&& (μ.1 399 1))) fun x1 => some (.inl (v2, x1, (v4 + 1)))
def jjX5_fewestToClear_42_10 (μ : PM) (a0 : Int32) (v2 : Int32) (v3 : Int32) (v4 : Int32) (s0 : Int32) : Option ((Int32 × Int32 × Int32) ⊕ (Int32)) :=
  (if s0 = 0 then jjX5_fewestToClear_72_10 μ a0 v2 v3 v4 else (fX5_upperWithout μ v3).bind fun q2 => (fX5_lowerWithout μ v3).bind fun q3 => (if (lg_cmp (q2 * 10) (q3 * a0.toInt64)) < 0 then jjX5_fewestToClear_72_10 μ a0 v2 v3 v4 else jjX5_fewestToClear_72_10 μ a0 v3 v3 v4))
def lbX5_fewestToClear_10 (μ : PM) (a0 : Int32)  (v2 : Int32) (v3 : Int32) (v4 : Int32) : Option ((Int32 × Int32 × Int32) ⊕ (Int32)) :=
  (if 1024 ≤ v4 then some (.inr (v2)) else (if v3 = (μ.1 399 1) then some (.inr (v2)) else (if (fJ6_bitCount_0f7a4 v2) ≤ (fJ6_bitCount_0f7a4 v3) then jjX5_fewestToClear_42_10 μ a0 v2 v3 v4 0 else jjX5_fewestToClear_42_10 μ a0 v2 v3 v4 1)))
def fX5_fewestToClear (μ : PM) (a0 : Int32) : Option (Int32) :=
  ((lp (fun s => lbX5_fewestToClear_10 μ a0 s.1 s.2.1 s.2.2) go_fuel ((μ.1 399 1), 0, 0)).bind fun ρ4 => some ρ4)
def ggX5_fewestToClear_10 (w : go_Wd) (tx : Nat) (Q : Option Value → go_M → Prop) (μ : PM) (a0 : Int32)  (s : Int32 × Int32 × Int32) : Prop := Go w 2 0 0 mtX5_fewestToClear 10 [(0, .ref 399), (1, .int a0), (2, .int s.1), (3, .int s.2.1), (4, .int s.2.2)] [] (go_mk tx μ) (go_Z w Q)
def eeX5_fewestToClear_10 (w : go_Wd) (tx : Nat) (Q : Option Value → go_M → Prop) (μ : PM) (a0 : Int32)  (y : Int32) : Prop := Q (some (.int y)) (go_mk tx μ)
set_option maxRecDepth 20000 in
set_option maxHeartbeats 4000000 in
theorem jqX5_fewestToClear_72_10 (w : go_Wd) (tx : Nat) (Q : Option Value → go_M → Prop) (μ : PM) (a0 : Int32) (v2 : Int32) (v3 : Int32) (v4 : Int32)    (out : (Int32 × Int32 × Int32) ⊕ (Int32)) (h : jjX5_fewestToClear_72_10 μ a0 v2 v3 v4  = some out) (hK : go_out (ggX5_fewestToClear_10 w tx Q μ a0 ) (eeX5_fewestToClear_10 w tx Q μ a0 ) out) : Go w 2 0 0 mtX5_fewestToClear 72 [(0, .ref 399), (1, .int a0), (2, .int v2), (3, .int v3), (4, .int v4)] [] (go_mk tx μ) (go_Z w Q) := by
  unfold jjX5_fewestToClear_72_10 at h
  refine go_iload_n dX5_fewestToClear_72 3 rfl ?_
  refine go_aload_n dX5_fewestToClear_73 0 rfl ?_
  refine pp_getI dX5_fewestToClear_74 ff_X5_19 (by decide) sh_399 ?_
  refine go_isub dX5_fewestToClear_77 ?_
  refine go_aload_n dX5_fewestToClear_78 0 rfl ?_
  refine pp_getI dX5_fewestToClear_79 ff_X5_19 (by decide) sh_399 ?_
  refine go_iand dX5_fewestToClear_82 ?_
  obtain ⟨x1, hx1, h⟩ := go_let_e h
  refine go_top hx1 ?_
  refine go_istore_n dX5_fewestToClear_83 (by decide) rfl ?_
  show Go w 2 0 0 mtX5_fewestToClear 84 [(3, .int x1), (0, .ref 399), (1, .int a0), (2, .int v2), (4, .int v4)] [] (go_mk tx μ) (go_Z w Q)
  refine go_iinc (v := (v4 + 1)) dX5_fewestToClear_84 4 rfl rfl (by decide) rfl ?_
  show Go w 2 0 0 mtX5_fewestToClear 87 [(4, .int (v4 + 1)), (3, .int x1), (0, .ref 399), (1, .int a0), (2, .int v2)] [] (go_mk tx μ) (go_Z w Q)
  refine go_goto 10 dX5_fewestToClear_87 (by decide) ?_
  cases h
  have hK : Go w 2 0 0 mtX5_fewestToClear 10 [(0, .ref 399), (1, .int a0), (2, .int v2), (3, .int x1), (4, .int (v4 + 1))] [] (go_mk tx μ) (go_Z w Q) := hK
  exact go_pick [2, 3, 4, 1, 0] rfl hK
set_option maxRecDepth 20000 in
set_option maxHeartbeats 4000000 in
theorem jqX5_fewestToClear_42_10 (w : go_Wd) (tx : Nat) (Q : Option Value → go_M → Prop) (μ : PM) (a0 : Int32) (v2 : Int32) (v3 : Int32) (v4 : Int32)  (s0 : Int32) (hs0 : s0 = 0 ∨ s0 = 1) (out : (Int32 × Int32 × Int32) ⊕ (Int32)) (h : jjX5_fewestToClear_42_10 μ a0 v2 v3 v4 s0 = some out) (hK : go_out (ggX5_fewestToClear_10 w tx Q μ a0 ) (eeX5_fewestToClear_10 w tx Q μ a0 ) out) : Go w 2 0 0 mtX5_fewestToClear 42 [(0, .ref 399), (1, .int a0), (2, .int v2), (3, .int v3), (4, .int v4)] [.int s0] (go_mk tx μ) (go_Z w Q) := by
  unfold jjX5_fewestToClear_42_10 at h
  refine go_istore dX5_fewestToClear_42 (by decide) rfl ?_
  show Go w 2 0 0 mtX5_fewestToClear 44 [(5, .int s0), (0, .ref 399), (1, .int a0), (2, .int v2), (3, .int v3), (4, .int v4)] [] (go_mk tx μ) (go_Z w Q)
  refine go_iload dX5_fewestToClear_44 0 rfl ?_
  refine go_if_eq 72 dX5_fewestToClear_46 (by decide) (fun hc => ?_) (fun hc => ?_)
  · have h := go_ifp hc h
    refine go_pick [1, 2, 3, 4, 5] rfl ?_
    exact jqX5_fewestToClear_72_10 w tx Q μ a0 v2 v3 v4    _ h hK
  · have h := go_ifn hc h
    refine go_aload_n dX5_fewestToClear_49 1 rfl ?_
    refine go_iload_n dX5_fewestToClear_50 4 rfl ?_
    obtain ⟨q2, hq2, h⟩ := go_bind h
    refine pp_callV (as := [.int v3]) (st := []) (rv := (some (.long q2))) (μ1 := μ) (st1 := [.long q2]) dX5_fewestToClear_51 ll_X5_47 sh_399 (by decide) rfl (ctX5_upperWithout  hq2) rfl (Nat.le_of_ble_eq_true rfl) (Nat.le_of_ble_eq_true rfl) (go_Z_up w _) rfl rfl ?_
    refine go_ldc2 dX5_fewestToClear_54 kl_X5_45 ?_
    refine go_lmul dX5_fewestToClear_57 ?_
    refine go_aload_n dX5_fewestToClear_58 1 rfl ?_
    refine go_iload_n dX5_fewestToClear_59 4 rfl ?_
    obtain ⟨q3, hq3, h⟩ := go_bind h
    refine pp_callV (as := [.int v3]) (st := [.long (q2 * 10)]) (rv := (some (.long q3))) (μ1 := μ) (st1 := [.long q3, .long (q2 * 10)]) dX5_fewestToClear_60 ll_X5_51 sh_399 (by decide) rfl (ctX5_lowerWithout  hq3) rfl (Nat.le_of_ble_eq_true rfl) (Nat.le_of_ble_eq_true rfl) (go_Z_up w _) rfl rfl ?_
    refine go_iload_n dX5_fewestToClear_63 2 rfl ?_
    refine go_i2l dX5_fewestToClear_64 ?_
    refine go_lmul dX5_fewestToClear_65 ?_
    refine go_lcmp dX5_fewestToClear_66 ?_
    refine go_if_lt 72 dX5_fewestToClear_67 (by decide) (fun hc => ?_) (fun hc => ?_)
    · have h := go_ifp hc h
      refine go_pick [1, 2, 3, 4, 5] rfl ?_
      exact jqX5_fewestToClear_72_10 w tx Q μ a0 v2 v3 v4    _ h hK
    · have h := go_ifn hc h
      refine go_iload_n dX5_fewestToClear_70 4 rfl ?_
      refine go_istore_n dX5_fewestToClear_71 (by decide) rfl ?_
      show Go w 2 0 0 mtX5_fewestToClear 72 [(2, .int v3), (5, .int s0), (0, .ref 399), (1, .int a0), (3, .int v3), (4, .int v4)] [] (go_mk tx μ) (go_Z w Q)
      refine go_pick [2, 3, 0, 4, 5] rfl ?_
      exact jqX5_fewestToClear_72_10 w tx Q μ a0 v3 v3 v4    _ h hK
set_option maxRecDepth 20000 in
set_option maxHeartbeats 4000000 in
theorem lqX5_fewestToClear_10 (w : go_Wd) (tx : Nat) (Q : Option Value → go_M → Prop) (μ : PM) (a0 : Int32)   (v2 : Int32) (v3 : Int32) (v4 : Int32) (out : (Int32 × Int32 × Int32) ⊕ (Int32)) (h : lbX5_fewestToClear_10 μ a0  v2 v3 v4 = some out) (hK : go_out (ggX5_fewestToClear_10 w tx Q μ a0 ) (eeX5_fewestToClear_10 w tx Q μ a0 ) out) : ggX5_fewestToClear_10 w tx Q μ a0  (v2, v3, v4) := by
  unfold lbX5_fewestToClear_10 at h
  show Go w 2 0 0 mtX5_fewestToClear 10 [(0, .ref 399), (1, .int a0), (2, .int v2), (3, .int v3), (4, .int v4)] [] (go_mk tx μ) (go_Z w Q)
  refine go_iload dX5_fewestToClear_10 4 rfl ?_
  refine go_sipush (v := 1024) dX5_fewestToClear_12 (by decide) ?_
  refine go_icmp_ge 90 dX5_fewestToClear_15 (by decide) (fun hc => ?_) (fun hc => ?_)
  · have h := go_ifp hc h
    refine go_iload_n dX5_fewestToClear_90 2 rfl ?_
    cases h
    exact go_iret dX5_fewestToClear_91 rfl hK
  · have h := go_ifn hc h
    refine go_iload_n dX5_fewestToClear_18 3 rfl ?_
    refine go_aload_n dX5_fewestToClear_19 0 rfl ?_
    refine pp_getI dX5_fewestToClear_20 ff_X5_19 (by decide) sh_399 ?_
    refine go_icmp_eq 90 dX5_fewestToClear_23 (by decide) (fun hc => ?_) (fun hc => ?_)
    · have h := go_ifp hc h
      refine go_iload_n dX5_fewestToClear_90 2 rfl ?_
      cases h
      exact go_iret dX5_fewestToClear_91 rfl hK
    · have h := go_ifn hc h
      refine go_iload_n dX5_fewestToClear_26 3 rfl ?_
      refine pp_callS (as := [.int v3]) (st := []) (rv := (some (.int (fJ6_bitCount_0f7a4 v3)))) (μ1 := μ) (st1 := [.int (fJ6_bitCount_0f7a4 v3)]) dX5_fewestToClear_27 ll_X5_39 (ctJ6_bitCount_0f7a4  rfl) rfl (Nat.le_of_ble_eq_true rfl) (Nat.le_of_ble_eq_true rfl) (go_Z_up w _) rfl rfl ?_
      refine go_iload_n dX5_fewestToClear_30 2 rfl ?_
      refine pp_callS (as := [.int v2]) (st := [.int (fJ6_bitCount_0f7a4 v3)]) (rv := (some (.int (fJ6_bitCount_0f7a4 v2)))) (μ1 := μ) (st1 := [.int (fJ6_bitCount_0f7a4 v2), .int (fJ6_bitCount_0f7a4 v3)]) dX5_fewestToClear_31 ll_X5_39 (ctJ6_bitCount_0f7a4  rfl) rfl (Nat.le_of_ble_eq_true rfl) (Nat.le_of_ble_eq_true rfl) (go_Z_up w _) rfl rfl ?_
      refine go_icmp_ge 41 dX5_fewestToClear_34 (by decide) (fun hc => ?_) (fun hc => ?_)
      · have h := go_ifp hc h
        refine go_iconst (v := 0) dX5_fewestToClear_41 (by decide) ?_
        refine go_pick [0, 1, 2, 3, 4] rfl ?_
        exact jqX5_fewestToClear_42_10 w tx Q μ a0 v2 v3 v4  0 (Or.inl rfl) _ h hK
      · have h := go_ifn hc h
        refine go_iconst (v := 1) dX5_fewestToClear_37 (by decide) ?_
        refine go_goto 42 dX5_fewestToClear_38 (by decide) ?_
        refine go_pick [0, 1, 2, 3, 4] rfl ?_
        exact jqX5_fewestToClear_42_10 w tx Q μ a0 v2 v3 v4  1 (Or.inr rfl) _ h hK
set_option maxRecDepth 20000 in
set_option maxHeartbeats 4000000 in
theorem cmX5_fewestToClear (w : go_Wd) (tx : Nat) (Q : Option Value → go_M → Prop) (μ : PM) (a0 : Int32) (out : Int32) (h : fX5_fewestToClear μ a0 = some out) (hK : Q (some (.int out)) (go_mk tx μ)) : Go w 2 0 0 mtX5_fewestToClear 0 [(0, .ref 399), (1, .int a0)] [] (go_mk tx μ) (go_Z w Q) := by
  unfold fX5_fewestToClear at h
  refine go_aload_n dX5_fewestToClear_0 0 rfl ?_
  refine pp_getI dX5_fewestToClear_1 ff_X5_19 (by decide) sh_399 ?_
  refine go_istore_n dX5_fewestToClear_4 (by decide) rfl ?_
  show Go w 2 0 0 mtX5_fewestToClear 5 [(2, .int (μ.1 399 1)), (0, .ref 399), (1, .int a0)] [] (go_mk tx μ) (go_Z w Q)
  refine go_iconst (v := 0) dX5_fewestToClear_5 (by decide) ?_
  refine go_istore_n dX5_fewestToClear_6 (by decide) rfl ?_
  show Go w 2 0 0 mtX5_fewestToClear 7 [(3, .int 0), (2, .int (μ.1 399 1)), (0, .ref 399), (1, .int a0)] [] (go_mk tx μ) (go_Z w Q)
  refine go_iconst (v := 0) dX5_fewestToClear_7 (by decide) ?_
  refine go_istore dX5_fewestToClear_8 (by decide) rfl ?_
  show Go w 2 0 0 mtX5_fewestToClear 10 [(4, .int 0), (3, .int 0), (2, .int (μ.1 399 1)), (0, .ref 399), (1, .int a0)] [] (go_mk tx μ) (go_Z w Q)
  obtain ⟨ρ4, hρ4, h⟩ := go_bind h
  refine go_pick [3, 4, 2, 1, 0] rfl ?_
  refine go_lp (G := ggX5_fewestToClear_10 w tx Q μ a0 ) (E := eeX5_fewestToClear_10 w tx Q μ a0 ) (fun s out h hK => lqX5_fewestToClear_10 w tx Q μ a0   s.1 s.2.1 s.2.2 out h hK) go_fuel ((μ.1 399 1), 0, 0) ρ4 hρ4 ?_
  cases h
  exact hK
theorem ctX5_fewestToClear {w : go_Wd} {tx : Nat} {μ : PM} {a0 : Int32} {r : Int32}  (h : fX5_fewestToClear μ a0 = some r) : Ct w 2 0 0 mtX5_fewestToClear [.ref 399, .int a0] (go_mk tx μ) (fun r' M' => r' = some (.int r) ∧ M' = go_mk tx μ) :=
  go_entry rfl (by decide) (Nat.le_of_ble_eq_true rfl) (cmX5_fewestToClear w tx _ μ a0 _ h ⟨rfl, rfl⟩)
def fX8_empty (μ : PM) (o : Nat) : Option (PM) :=
  go_let (pm_wi μ o 6 0) fun μ1 => go_let (pm_wi μ1 o 7 0) fun μ2 => (fJ7_fill_53178 μ2 (o + 4) 3 (-1)).bind fun q3 => some (q3)
set_option maxRecDepth 20000 in
set_option maxHeartbeats 4000000 in
theorem cmX8_empty (w : go_Wd) (tx : Nat) (Q : Option Value → go_M → Prop) (μ : PM) (o : Nat) (ho : go_isT o) (out : PM) (h : fX8_empty μ o = some out) (hK : Q none (go_mk tx out)) : Go w 1 0 0 mtX8_empty 0 [(0, .ref o)] [] (go_mk tx μ) (go_Z w Q) := by
  unfold fX8_empty at h
  refine go_aload_n dX8_empty_0 0 rfl ?_
  refine go_iconst (v := 0) dX8_empty_1 (by decide) ?_
  obtain ⟨μ1, hμ1, h⟩ := go_let_e h
  refine pp_putI dX8_empty_2 ff_X8_30 (Or.inl rfl) ho.1 hμ1 ?_
  refine go_aload_n dX8_empty_5 0 rfl ?_
  refine go_iconst (v := 0) dX8_empty_6 (by decide) ?_
  obtain ⟨μ2, hμ2, h⟩ := go_let_e h
  refine pp_putI dX8_empty_7 ff_X8_34 (Or.inl rfl) ho.1 hμ2 ?_
  refine go_aload_n dX8_empty_10 0 rfl ?_
  refine pp_getR dX8_empty_11 ff_X8_21 (Or.inr ⟨_, rfl⟩) ho.1 (go_RF_ne ho.2.2.2.2.2.2.2.2.2.2.2.2.2 ho.2.2.2.2.2.2.2.2.2.2.1) ?_
  refine go_iconst (v := (-1)) dX8_empty_14 (by decide) ?_
  obtain ⟨q3, hq3, h⟩ := go_bind h
  refine pp_callS (as := [.ref (o + 4), .int (-1)]) (st := []) (rv := none) (μ1 := q3) (st1 := []) dX8_empty_15 ll_X8_37 (ctJ7_fill_53178 ho.2.2.2.2.1 hq3) rfl (Nat.le_of_ble_eq_true rfl) (Nat.le_of_ble_eq_true rfl) (go_Z_up w _) rfl rfl ?_
  cases h
  exact go_vret dX8_empty_18 rfl hK
theorem ctX8_empty {w : go_Wd} {tx : Nat} {μ : PM} {o : Nat} {μ1 : PM} (ho : go_isT o) (h : fX8_empty μ o = some μ1) : Ct w 1 0 0 mtX8_empty [.ref o] (go_mk tx μ) (fun r' M' => r' = none ∧ M' = go_mk tx μ1) :=
  go_entry rfl (by decide) (Nat.le_of_ble_eq_true rfl) (cmX8_empty w tx _ μ o ho _ h ⟨rfl, rfl⟩)
def jjX6_isLetter_12 (a0 : Int32)   : Int32 :=
  (if a0 < 65 then 0 else (if 90 < a0 then 0 else 1))
def fX6_isLetter (a0 : Int32) : Int32 :=
  (if a0 < 97 then jjX6_isLetter_12 a0 else (if a0 ≤ 122 then 1 else jjX6_isLetter_12 a0))
set_option maxRecDepth 20000 in
set_option maxHeartbeats 4000000 in
theorem jqX6_isLetter_12 (w : go_Wd) (tx : Nat) (Q : Option Value → go_M → Prop) (μ : PM) (a0 : Int32)     (out : Int32) (h : jjX6_isLetter_12 a0   = out) (hK : Q (some (.int out)) (go_mk tx μ)) : Go w 0 0 0 mtX6_isLetter 12 [(0, .int a0)] [] (go_mk tx μ) (go_Z w Q) := by
  unfold jjX6_isLetter_12 at h
  refine go_iload_n dX6_isLetter_12 0 rfl ?_
  refine go_bipush (v := 65) dX6_isLetter_13 (by decide) ?_
  refine go_icmp_lt 28 dX6_isLetter_15 (by decide) (fun hc => ?_) (fun hc => ?_)
  · have h := go_ifp hc h
    refine go_iconst (v := 0) dX6_isLetter_28 (by decide) ?_
    subst h
    exact go_zret dX6_isLetter_29 rfl (Or.inl rfl) hK
  · have h := go_ifn hc h
    refine go_iload_n dX6_isLetter_18 0 rfl ?_
    refine go_bipush (v := 90) dX6_isLetter_19 (by decide) ?_
    refine go_icmp_gt 28 dX6_isLetter_21 (by decide) (fun hc => ?_) (fun hc => ?_)
    · have h := go_ifp hc h
      refine go_iconst (v := 0) dX6_isLetter_28 (by decide) ?_
      subst h
      exact go_zret dX6_isLetter_29 rfl (Or.inl rfl) hK
    · have h := go_ifn hc h
      refine go_iconst (v := 1) dX6_isLetter_24 (by decide) ?_
      refine go_goto 29 dX6_isLetter_25 (by decide) ?_
      subst h
      exact go_zret dX6_isLetter_29 rfl (Or.inr rfl) hK
set_option maxRecDepth 20000 in
set_option maxHeartbeats 4000000 in
theorem cmX6_isLetter (w : go_Wd) (tx : Nat) (Q : Option Value → go_M → Prop) (μ : PM) (a0 : Int32) (out : Int32) (h : fX6_isLetter a0 = out) (hK : Q (some (.int out)) (go_mk tx μ)) : Go w 0 0 0 mtX6_isLetter 0 [(0, .int a0)] [] (go_mk tx μ) (go_Z w Q) := by
  unfold fX6_isLetter at h
  refine go_iload_n dX6_isLetter_0 0 rfl ?_
  refine go_bipush (v := 97) dX6_isLetter_1 (by decide) ?_
  refine go_icmp_lt 12 dX6_isLetter_3 (by decide) (fun hc => ?_) (fun hc => ?_)
  · have h := go_ifp hc h
    refine go_pick [0] rfl ?_
    exact jqX6_isLetter_12 w tx Q μ a0     _ h hK
  · have h := go_ifn hc h
    refine go_iload_n dX6_isLetter_6 0 rfl ?_
    refine go_bipush (v := 122) dX6_isLetter_7 (by decide) ?_
    refine go_icmp_le 24 dX6_isLetter_9 (by decide) (fun hc => ?_) (fun hc => ?_)
    · have h := go_ifp hc h
      refine go_iconst (v := 1) dX6_isLetter_24 (by decide) ?_
      refine go_goto 29 dX6_isLetter_25 (by decide) ?_
      subst h
      exact go_zret dX6_isLetter_29 rfl (Or.inr rfl) hK
    · have h := go_ifn hc h
      refine go_pick [0] rfl ?_
      exact jqX6_isLetter_12 w tx Q μ a0     _ h hK
theorem ctX6_isLetter {w : go_Wd} {tx : Nat} {μ : PM} {a0 : Int32} {r : Int32}  (h : fX6_isLetter a0 = r) : Ct w 0 0 0 mtX6_isLetter [.int a0] (go_mk tx μ) (fun r' M' => r' = some (.int r) ∧ M' = go_mk tx μ) :=
  go_entry rfl (by decide) (Nat.le_of_ble_eq_true rfl) (cmX6_isLetter w tx _ μ a0 _ h ⟨rfl, rfl⟩)
theorem bzX6_isLetter {a0 : Int32} {r : Int32} (h : fX6_isLetter a0 = r) : r = 0 ∨ r = 1 := by
  subst h
  show go_bi _
  unfold fX6_isLetter jjX6_isLetter_12
  repeat' first | exact bi_0 | exact bi_1 | with_reducible apply bi_ite
def fX6_isDigit (a0 : Int32) : Int32 :=
  (if a0 < 48 then 0 else (if 57 < a0 then 0 else 1))
set_option maxRecDepth 20000 in
set_option maxHeartbeats 4000000 in
theorem cmX6_isDigit (w : go_Wd) (tx : Nat) (Q : Option Value → go_M → Prop) (μ : PM) (a0 : Int32) (out : Int32) (h : fX6_isDigit a0 = out) (hK : Q (some (.int out)) (go_mk tx μ)) : Go w 0 0 0 mtX6_isDigit 0 [(0, .int a0)] [] (go_mk tx μ) (go_Z w Q) := by
  unfold fX6_isDigit at h
  refine go_iload_n dX6_isDigit_0 0 rfl ?_
  refine go_bipush (v := 48) dX6_isDigit_1 (by decide) ?_
  refine go_icmp_lt 16 dX6_isDigit_3 (by decide) (fun hc => ?_) (fun hc => ?_)
  · have h := go_ifp hc h
    refine go_iconst (v := 0) dX6_isDigit_16 (by decide) ?_
    subst h
    exact go_zret dX6_isDigit_17 rfl (Or.inl rfl) hK
  · have h := go_ifn hc h
    refine go_iload_n dX6_isDigit_6 0 rfl ?_
    refine go_bipush (v := 57) dX6_isDigit_7 (by decide) ?_
    refine go_icmp_gt 16 dX6_isDigit_9 (by decide) (fun hc => ?_) (fun hc => ?_)
    · have h := go_ifp hc h
      refine go_iconst (v := 0) dX6_isDigit_16 (by decide) ?_
      subst h
      exact go_zret dX6_isDigit_17 rfl (Or.inl rfl) hK
    · have h := go_ifn hc h
      refine go_iconst (v := 1) dX6_isDigit_12 (by decide) ?_
      refine go_goto 17 dX6_isDigit_13 (by decide) ?_
      subst h
      exact go_zret dX6_isDigit_17 rfl (Or.inr rfl) hK
theorem ctX6_isDigit {w : go_Wd} {tx : Nat} {μ : PM} {a0 : Int32} {r : Int32}  (h : fX6_isDigit a0 = r) : Ct w 0 0 0 mtX6_isDigit [.int a0] (go_mk tx μ) (fun r' M' => r' = some (.int r) ∧ M' = go_mk tx μ) :=
  go_entry rfl (by decide) (Nat.le_of_ble_eq_true rfl) (cmX6_isDigit w tx _ μ a0 _ h ⟨rfl, rfl⟩)
theorem bzX6_isDigit {a0 : Int32} {r : Int32} (h : fX6_isDigit a0 = r) : r = 0 ∨ r = 1 := by
  subst h
  show go_bi _
  unfold fX6_isDigit
  repeat' first | exact bi_0 | exact bi_1 | with_reducible apply bi_ite
def lbX6_valueOf_5 (μ : PM) (a0 : Int32) (a1 : Int32)  (v3 : Int32) (v4 : Int32) : Option ((Int32 × Int32) ⊕ (Int32)) :=
  (if v4 < 0 then some (.inr (v3)) else (if a1 ≤ v4 then some (.inr (v3)) else (if 300 ≤ v4 then some (.inr (v3)) else go_chk v4 300 <| go_let ((jmin (((v3 * 10) + (μ.1 371 v4.toNatClampNeg)) - 48) 10000)) fun x2 => some (.inl (x2, (v4 + 1))))))
def fX6_valueOf (μ : PM) (a0 : Int32) (a1 : Int32) : Option (Int32) :=
  ((lp (fun s => lbX6_valueOf_5 μ a0 a1 s.1 s.2) go_fuel (0, a0)).bind fun ρ3 => some ρ3)
def ggX6_valueOf_5 (w : go_Wd) (tx : Nat) (Q : Option Value → go_M → Prop) (μ : PM) (a0 : Int32) (a1 : Int32)  (s : Int32 × Int32) : Prop := Go w 1 0 0 mtX6_valueOf 5 [(0, .ref 372), (2, .int a1), (3, .int s.1), (4, .int s.2)] [] (go_mk tx μ) (go_Z w Q)
def eeX6_valueOf_5 (w : go_Wd) (tx : Nat) (Q : Option Value → go_M → Prop) (μ : PM) (a0 : Int32) (a1 : Int32)  (y : Int32) : Prop := Q (some (.int y)) (go_mk tx μ)
set_option maxRecDepth 20000 in
set_option maxHeartbeats 4000000 in
theorem lqX6_valueOf_5 (w : go_Wd) (tx : Nat) (Q : Option Value → go_M → Prop) (μ : PM) (a0 : Int32) (a1 : Int32)   (v3 : Int32) (v4 : Int32) (out : (Int32 × Int32) ⊕ (Int32)) (h : lbX6_valueOf_5 μ a0 a1  v3 v4 = some out) (hK : go_out (ggX6_valueOf_5 w tx Q μ a0 a1 ) (eeX6_valueOf_5 w tx Q μ a0 a1 ) out) : ggX6_valueOf_5 w tx Q μ a0 a1  (v3, v4) := by
  unfold lbX6_valueOf_5 at h
  show Go w 1 0 0 mtX6_valueOf 5 [(0, .ref 372), (2, .int a1), (3, .int v3), (4, .int v4)] [] (go_mk tx μ) (go_Z w Q)
  refine go_iload dX6_valueOf_5 3 rfl ?_
  refine go_if_lt 54 dX6_valueOf_7 (by decide) (fun hc => ?_) (fun hc => ?_)
  · have h := go_ifp hc h
    refine go_iload_n dX6_valueOf_54 2 rfl ?_
    cases h
    exact go_iret dX6_valueOf_55 rfl hK
  · have h := go_ifn hc h
    refine go_iload dX6_valueOf_10 3 rfl ?_
    refine go_iload_n dX6_valueOf_12 1 rfl ?_
    refine go_icmp_ge 54 dX6_valueOf_13 (by decide) (fun hc => ?_) (fun hc => ?_)
    · have h := go_ifp hc h
      refine go_iload_n dX6_valueOf_54 2 rfl ?_
      cases h
      exact go_iret dX6_valueOf_55 rfl hK
    · have h := go_ifn hc h
      refine go_iload dX6_valueOf_16 3 rfl ?_
      refine go_aload_n dX6_valueOf_18 0 rfl ?_
      refine pp_getR dX6_valueOf_19 ff_X6_21 (Or.inr ⟨_, rfl⟩) sh_372 rf_372_0 ?_
      refine pp_alen (v := 300) dX6_valueOf_22 sh_371 (by decide) ?_
      refine go_icmp_ge 54 dX6_valueOf_23 (by decide) (fun hc => ?_) (fun hc => ?_)
      · have h := go_ifp hc h
        refine go_iload_n dX6_valueOf_54 2 rfl ?_
        cases h
        exact go_iret dX6_valueOf_55 rfl hK
      · have h := go_ifn hc h
        refine go_iload_n dX6_valueOf_26 2 rfl ?_
        refine go_bipush (v := 10) dX6_valueOf_27 (by decide) ?_
        refine go_imul dX6_valueOf_29 ?_
        refine go_aload_n dX6_valueOf_30 0 rfl ?_
        refine pp_getR dX6_valueOf_31 ff_X6_21 (Or.inr ⟨_, rfl⟩) sh_372 rf_372_0 ?_
        refine go_iload dX6_valueOf_34 3 rfl ?_
        obtain ⟨hz1, h⟩ := go_chk_e h
        refine pp_ild dX6_valueOf_36 sh_371 hz1 ?_
        refine go_iadd dX6_valueOf_37 ?_
        refine go_bipush (v := 48) dX6_valueOf_38 (by decide) ?_
        refine go_isub dX6_valueOf_40 ?_
        refine go_sipush (v := 10000) dX6_valueOf_41 (by decide) ?_
        refine go_mmin dX6_valueOf_44 mm_X6_41 (by decide) (Nat.le_of_ble_eq_true rfl) ?_
        refine go_top (x := (jmin (((v3 * 10) + (μ.1 371 v4.toNatClampNeg)) - 48) 10000)) rfl ?_
        obtain ⟨x2, hx2, h⟩ := go_let_e h
        refine go_top hx2 ?_
        refine go_istore_n dX6_valueOf_47 (by decide) rfl ?_
        show Go w 1 0 0 mtX6_valueOf 48 [(3, .int x2), (0, .ref 372), (2, .int a1), (4, .int v4)] [] (go_mk tx μ) (go_Z w Q)
        refine go_iinc (v := (v4 + 1)) dX6_valueOf_48 3 rfl rfl (by decide) rfl ?_
        show Go w 1 0 0 mtX6_valueOf 51 [(4, .int (v4 + 1)), (3, .int x2), (0, .ref 372), (2, .int a1)] [] (go_mk tx μ) (go_Z w Q)
        refine go_goto 5 dX6_valueOf_51 (by decide) ?_
        cases h
        have hK : Go w 1 0 0 mtX6_valueOf 5 [(0, .ref 372), (2, .int a1), (3, .int x2), (4, .int (v4 + 1))] [] (go_mk tx μ) (go_Z w Q) := hK
        exact go_pick [2, 3, 1, 0] rfl hK
set_option maxRecDepth 20000 in
set_option maxHeartbeats 4000000 in
theorem cmX6_valueOf (w : go_Wd) (tx : Nat) (Q : Option Value → go_M → Prop) (μ : PM) (a0 : Int32) (a1 : Int32) (out : Int32) (h : fX6_valueOf μ a0 a1 = some out) (hK : Q (some (.int out)) (go_mk tx μ)) : Go w 1 0 0 mtX6_valueOf 0 [(0, .ref 372), (1, .int a0), (2, .int a1)] [] (go_mk tx μ) (go_Z w Q) := by
  unfold fX6_valueOf at h
  refine go_iconst (v := 0) dX6_valueOf_0 (by decide) ?_
  refine go_istore_n dX6_valueOf_1 (by decide) rfl ?_
  show Go w 1 0 0 mtX6_valueOf 2 [(3, .int 0), (0, .ref 372), (1, .int a0), (2, .int a1)] [] (go_mk tx μ) (go_Z w Q)
  refine go_iload_n dX6_valueOf_2 2 rfl ?_
  refine go_istore dX6_valueOf_3 (by decide) rfl ?_
  show Go w 1 0 0 mtX6_valueOf 5 [(4, .int a0), (3, .int 0), (0, .ref 372), (1, .int a0), (2, .int a1)] [] (go_mk tx μ) (go_Z w Q)
  obtain ⟨ρ3, hρ3, h⟩ := go_bind h
  refine go_pick [2, 4, 1, 0] rfl ?_
  refine go_lp (G := ggX6_valueOf_5 w tx Q μ a0 a1 ) (E := eeX6_valueOf_5 w tx Q μ a0 a1 ) (fun s out h hK => lqX6_valueOf_5 w tx Q μ a0 a1   s.1 s.2 out h hK) go_fuel (0, a0) ρ3 hρ3 ?_
  cases h
  exact hK
theorem ctX6_valueOf {w : go_Wd} {tx : Nat} {μ : PM} {a0 : Int32} {a1 : Int32} {r : Int32}  (h : fX6_valueOf μ a0 a1 = some r) : Ct w 1 0 0 mtX6_valueOf [.ref 372, .int a0, .int a1] (go_mk tx μ) (fun r' M' => r' = some (.int r) ∧ M' = go_mk tx μ) :=
  go_entry rfl (by decide) (Nat.le_of_ble_eq_true rfl) (cmX6_valueOf w tx _ μ a0 a1 _ h ⟨rfl, rfl⟩)
def fX6_refuse (μ : PM) (a0 : Int32) : Option (PM) :=
  (if (μ.1 372 8) = 0 then (if (μ.1 372 5) < 0 then go_let (pm_wi μ 372 6 53) fun μ2 => some (μ2) else (if 300 < (μ.1 372 5) then go_let (pm_wi μ 372 6 53) fun μ3 => some (μ3) else go_let (pm_wi μ 372 8 a0) fun μ4 => go_chk (μ4.1 372 5) 301 <| go_let (pm_wi μ4 372 9 (μ4.1 374 ((μ4.1 372 5) : Int32).toNatClampNeg)) fun μ6 => go_let (pm_wi μ6 372 6 53) fun μ7 => some (μ7))) else go_let (pm_wi μ 372 6 53) fun μ1 => some (μ1))
set_option maxRecDepth 20000 in
set_option maxHeartbeats 4000000 in
theorem cmX6_refuse (w : go_Wd) (tx : Nat) (Q : Option Value → go_M → Prop) (μ : PM) (a0 : Int32) (out : PM) (h : fX6_refuse μ a0 = some out) (hK : Q none (go_mk tx out)) : Go w 0 0 0 mtX6_refuse 0 [(0, .ref 372), (1, .int a0)] [] (go_mk tx μ) (go_Z w Q) := by
  unfold fX6_refuse at h
  refine go_aload_n dX6_refuse_0 0 rfl ?_
  refine pp_getI dX6_refuse_1 ff_X6_34 (by decide) sh_372 ?_
  refine go_if_ne 42 dX6_refuse_4 (by decide) (fun hc => ?_) (fun hc => ?_)
  · have h := go_ifn hc h
    refine go_aload_n dX6_refuse_42 0 rfl ?_
    refine go_bipush (v := 53) dX6_refuse_43 (by decide) ?_
    obtain ⟨μ1, hμ1, h⟩ := go_let_e h
    refine pp_putI dX6_refuse_45 ff_X6_54 (Or.inl rfl) sh_372 hμ1 ?_
    cases h
    exact go_vret dX6_refuse_48 rfl hK
  · have h := go_ifp hc h
    refine go_aload_n dX6_refuse_7 0 rfl ?_
    refine pp_getI dX6_refuse_8 ff_X6_51 (by decide) sh_372 ?_
    refine go_if_lt 42 dX6_refuse_11 (by decide) (fun hc => ?_) (fun hc => ?_)
    · have h := go_ifp hc h
      refine go_aload_n dX6_refuse_42 0 rfl ?_
      refine go_bipush (v := 53) dX6_refuse_43 (by decide) ?_
      obtain ⟨μ2, hμ2, h⟩ := go_let_e h
      refine pp_putI dX6_refuse_45 ff_X6_54 (Or.inl rfl) sh_372 hμ2 ?_
      cases h
      exact go_vret dX6_refuse_48 rfl hK
    · have h := go_ifn hc h
      refine go_aload_n dX6_refuse_14 0 rfl ?_
      refine pp_getI dX6_refuse_15 ff_X6_51 (by decide) sh_372 ?_
      refine go_sipush (v := 300) dX6_refuse_18 (by decide) ?_
      refine go_icmp_gt 42 dX6_refuse_21 (by decide) (fun hc => ?_) (fun hc => ?_)
      · have h := go_ifp hc h
        refine go_aload_n dX6_refuse_42 0 rfl ?_
        refine go_bipush (v := 53) dX6_refuse_43 (by decide) ?_
        obtain ⟨μ3, hμ3, h⟩ := go_let_e h
        refine pp_putI dX6_refuse_45 ff_X6_54 (Or.inl rfl) sh_372 hμ3 ?_
        cases h
        exact go_vret dX6_refuse_48 rfl hK
      · have h := go_ifn hc h
        refine go_aload_n dX6_refuse_24 0 rfl ?_
        refine go_iload_n dX6_refuse_25 1 rfl ?_
        obtain ⟨μ4, hμ4, h⟩ := go_let_e h
        refine pp_putI dX6_refuse_26 ff_X6_34 (Or.inl rfl) sh_372 hμ4 ?_
        refine go_aload_n dX6_refuse_29 0 rfl ?_
        refine go_aload_n dX6_refuse_30 0 rfl ?_
        refine pp_getR dX6_refuse_31 ff_X6_15 (Or.inr ⟨_, rfl⟩) sh_372 rf_372_2 ?_
        refine go_aload_n dX6_refuse_34 0 rfl ?_
        refine pp_getI dX6_refuse_35 ff_X6_51 (by decide) sh_372 ?_
        obtain ⟨hz5, h⟩ := go_chk_e h
        refine pp_ild dX6_refuse_38 sh_374 hz5 ?_
        obtain ⟨μ6, hμ6, h⟩ := go_let_e h
        refine pp_putI dX6_refuse_39 ff_X6_38 (Or.inl rfl) sh_372 hμ6 ?_
        refine go_aload_n dX6_refuse_42 0 rfl ?_
        refine go_bipush (v := 53) dX6_refuse_43 (by decide) ?_
        obtain ⟨μ7, hμ7, h⟩ := go_let_e h
        refine pp_putI dX6_refuse_45 ff_X6_54 (Or.inl rfl) sh_372 hμ7 ?_
        cases h
        exact go_vret dX6_refuse_48 rfl hK
theorem ctX6_refuse {w : go_Wd} {tx : Nat} {μ : PM} {a0 : Int32} {μ1 : PM}  (h : fX6_refuse μ a0 = some μ1) : Ct w 0 0 0 mtX6_refuse [.ref 372, .int a0] (go_mk tx μ) (fun r' M' => r' = none ∧ M' = go_mk tx μ1) :=
  go_entry rfl (by decide) (Nat.le_of_ble_eq_true rfl) (cmX6_refuse w tx _ μ a0 _ h ⟨rfl, rfl⟩)
def fX6_advance (μ : PM)  : Option (PM) :=
  (if (μ.1 372 6) = 53 then some (μ) else (if (μ.1 372 5) < 0 then some (μ) else (if 300 ≤ (μ.1 372 5) then some (μ) else go_let (pm_wi μ 372 5 ((μ.1 372 5) + 1)) fun μ1 => go_chk (μ1.1 372 5) 301 <| go_let (pm_wi μ1 372 6 (μ1.1 373 ((μ1.1 372 5) : Int32).toNatClampNeg)) fun μ3 => some (μ3))))
set_option maxRecDepth 20000 in
set_option maxHeartbeats 4000000 in
theorem cmX6_advance (w : go_Wd) (tx : Nat) (Q : Option Value → go_M → Prop) (μ : PM)  (out : PM) (h : fX6_advance μ = some out) (hK : Q none (go_mk tx out)) : Go w 0 0 0 mtX6_advance 0 [(0, .ref 372)] [] (go_mk tx μ) (go_Z w Q) := by
  unfold fX6_advance at h
  refine go_aload_n dX6_advance_0 0 rfl ?_
  refine pp_getI dX6_advance_1 ff_X6_54 (by decide) sh_372 ?_
  refine go_bipush (v := 53) dX6_advance_4 (by decide) ?_
  refine go_icmp_eq 49 dX6_advance_6 (by decide) (fun hc => ?_) (fun hc => ?_)
  · have h := go_ifp hc h
    cases h
    exact go_vret dX6_advance_49 rfl hK
  · have h := go_ifn hc h
    refine go_aload_n dX6_advance_9 0 rfl ?_
    refine pp_getI dX6_advance_10 ff_X6_51 (by decide) sh_372 ?_
    refine go_if_lt 49 dX6_advance_13 (by decide) (fun hc => ?_) (fun hc => ?_)
    · have h := go_ifp hc h
      cases h
      exact go_vret dX6_advance_49 rfl hK
    · have h := go_ifn hc h
      refine go_aload_n dX6_advance_16 0 rfl ?_
      refine pp_getI dX6_advance_17 ff_X6_51 (by decide) sh_372 ?_
      refine go_sipush (v := 300) dX6_advance_20 (by decide) ?_
      refine go_icmp_ge 49 dX6_advance_23 (by decide) (fun hc => ?_) (fun hc => ?_)
      · have h := go_ifp hc h
        cases h
        exact go_vret dX6_advance_49 rfl hK
      · have h := go_ifn hc h
        refine go_aload_n dX6_advance_26 0 rfl ?_
        refine go_dup dX6_advance_27 rfl ?_
        refine pp_getI dX6_advance_28 ff_X6_51 (by decide) sh_372 ?_
        refine go_iconst (v := 1) dX6_advance_31 (by decide) ?_
        refine go_iadd dX6_advance_32 ?_
        obtain ⟨μ1, hμ1, h⟩ := go_let_e h
        refine pp_putI dX6_advance_33 ff_X6_51 (Or.inl rfl) sh_372 hμ1 ?_
        refine go_aload_n dX6_advance_36 0 rfl ?_
        refine go_aload_n dX6_advance_37 0 rfl ?_
        refine pp_getR dX6_advance_38 ff_X6_9 (Or.inr ⟨_, rfl⟩) sh_372 rf_372_1 ?_
        refine go_aload_n dX6_advance_41 0 rfl ?_
        refine pp_getI dX6_advance_42 ff_X6_51 (by decide) sh_372 ?_
        obtain ⟨hz2, h⟩ := go_chk_e h
        refine pp_ild dX6_advance_45 sh_373 hz2 ?_
        obtain ⟨μ3, hμ3, h⟩ := go_let_e h
        refine pp_putI dX6_advance_46 ff_X6_54 (Or.inl rfl) sh_372 hμ3 ?_
        cases h
        exact go_vret dX6_advance_49 rfl hK
theorem ctX6_advance {w : go_Wd} {tx : Nat} {μ : PM}  {μ1 : PM}  (h : fX6_advance μ = some μ1) : Ct w 0 0 0 mtX6_advance [.ref 372] (go_mk tx μ) (fun r' M' => r' = none ∧ M' = go_mk tx μ1) :=
  go_entry rfl (by decide) (Nat.le_of_ble_eq_true rfl) (cmX6_advance w tx _ μ  _ h ⟨rfl, rfl⟩)
def fX8_emit (μ : PM) (o : Nat) (a0 : Int32) (a1 : Int32) : Option (Int32 × PM) :=
  (if (μ.1 o 7) < 0 then some (((μ.1 o 7), μ)) else (if 320 ≤ (μ.1 o 7) then some (((μ.1 o 7), μ)) else go_chk (μ.1 o 7) 320 <| go_let (pm_wi μ (o + 5) ((μ.1 o 7) : Int32).toNatClampNeg a0) fun μ1 => go_chk (μ.1 o 7) 320 <| go_let (pm_wi μ1 (o + 6) ((μ.1 o 7) : Int32).toNatClampNeg a1) fun μ3 => go_let (pm_wi μ3 o 7 ((μ3.1 o 7) + 1)) fun μ5 => some (((μ.1 o 7), μ5))))
set_option maxRecDepth 20000 in
set_option maxHeartbeats 4000000 in
theorem cmX8_emit (w : go_Wd) (tx : Nat) (Q : Option Value → go_M → Prop) (μ : PM) (o : Nat) (a0 : Int32) (a1 : Int32) (ho : go_isT o) (out : Int32 × PM) (h : fX8_emit μ o a0 a1 = some out) (hK : Q (some (.int out.1)) (go_mk tx out.2)) : Go w 0 0 0 mtX8_emit 0 [(0, .ref o), (1, .int a0), (2, .int a1)] [] (go_mk tx μ) (go_Z w Q) := by
  unfold fX8_emit at h
  refine go_aload_n dX8_emit_0 0 rfl ?_
  refine pp_getI dX8_emit_1 ff_X8_34 (by decide) ho.1 ?_
  refine go_istore_n dX8_emit_4 (by decide) rfl ?_
  show Go w 0 0 0 mtX8_emit 5 [(3, .int (μ.1 o 7)), (0, .ref o), (1, .int a0), (2, .int a1)] [] (go_mk tx μ) (go_Z w Q)
  refine go_iload_n dX8_emit_5 0 rfl ?_
  refine go_if_lt 40 dX8_emit_6 (by decide) (fun hc => ?_) (fun hc => ?_)
  · have h := go_ifp hc h
    refine go_iload_n dX8_emit_40 0 rfl ?_
    cases h
    exact go_iret dX8_emit_41 rfl hK
  · have h := go_ifn hc h
    refine go_iload_n dX8_emit_9 0 rfl ?_
    refine go_sipush (v := 320) dX8_emit_10 (by decide) ?_
    refine go_icmp_ge 40 dX8_emit_13 (by decide) (fun hc => ?_) (fun hc => ?_)
    · have h := go_ifp hc h
      refine go_iload_n dX8_emit_40 0 rfl ?_
      cases h
      exact go_iret dX8_emit_41 rfl hK
    · have h := go_ifn hc h
      refine go_aload_n dX8_emit_16 1 rfl ?_
      refine pp_getR dX8_emit_17 ff_X8_24 (Or.inr ⟨_, rfl⟩) ho.1 (go_RF_ne ho.2.2.2.2.2.2.2.2.2.2.2.2.2 ho.2.2.2.2.2.2.2.2.2.2.2.1) ?_
      refine go_iload_n dX8_emit_20 0 rfl ?_
      refine go_iload_n dX8_emit_21 2 rfl ?_
      obtain ⟨hz2, h⟩ := go_chk_e h
      obtain ⟨μ1, hμ1, h⟩ := go_let_e h
      refine pp_ist dX8_emit_22 ho.2.2.2.2.2.1 hz2 hμ1 ?_
      refine go_aload_n dX8_emit_23 1 rfl ?_
      refine pp_getR dX8_emit_24 ff_X8_27 (Or.inr ⟨_, rfl⟩) ho.1 (go_RF_ne ho.2.2.2.2.2.2.2.2.2.2.2.2.2 ho.2.2.2.2.2.2.2.2.2.2.2.2.1) ?_
      refine go_iload_n dX8_emit_27 0 rfl ?_
      refine go_iload_n dX8_emit_28 3 rfl ?_
      obtain ⟨hz4, h⟩ := go_chk_e h
      obtain ⟨μ3, hμ3, h⟩ := go_let_e h
      refine pp_ist dX8_emit_29 ho.2.2.2.2.2.2.1 hz4 hμ3 ?_
      refine go_aload_n dX8_emit_30 1 rfl ?_
      refine go_dup dX8_emit_31 rfl ?_
      refine pp_getI dX8_emit_32 ff_X8_34 (by decide) ho.1 ?_
      refine go_iconst (v := 1) dX8_emit_35 (by decide) ?_
      refine go_iadd dX8_emit_36 ?_
      obtain ⟨μ5, hμ5, h⟩ := go_let_e h
      refine pp_putI dX8_emit_37 ff_X8_34 (Or.inl rfl) ho.1 hμ5 ?_
      refine go_iload_n dX8_emit_40 0 rfl ?_
      cases h
      exact go_iret dX8_emit_41 rfl hK
theorem ctX8_emit {w : go_Wd} {tx : Nat} {μ : PM} {o : Nat} {a0 : Int32} {a1 : Int32} {r : Int32} {μ1 : PM} (ho : go_isT o) (h : fX8_emit μ o a0 a1 = some (r, μ1)) : Ct w 0 0 0 mtX8_emit [.ref o, .int a0, .int a1] (go_mk tx μ) (fun r' M' => r' = some (.int r) ∧ M' = go_mk tx μ1) :=
  go_entry rfl (by decide) (Nat.le_of_ble_eq_true rfl) (cmX8_emit w tx _ μ o a0 a1 ho _ h ⟨rfl, rfl⟩)
def fX6_readKnown (tx : Nat) (μ : PM)  : Option (PM) :=
  (if (μ.1 372 6) ≤ (μ.1 372 7) then (fX8_emit μ tx 10 ((μ.1 372 6) - 10)).bind fun q1 => (fX6_advance q1.2).bind fun q2 => some (q2) else (fX6_refuse μ 5).bind fun q3 => some (q3))
set_option maxRecDepth 20000 in
set_option maxHeartbeats 4000000 in
theorem cmX6_readKnown (w : go_Wd) (tx : Nat) (Q : Option Value → go_M → Prop) (μ : PM) (htx : go_isT tx) (out : PM) (h : fX6_readKnown tx μ = some out) (hK : Q none (go_mk tx out)) : Go w 1 0 0 mtX6_readKnown 0 [(0, .ref 372)] [] (go_mk tx μ) (go_Z w Q) := by
  unfold fX6_readKnown at h
  refine go_aload_n dX6_readKnown_0 0 rfl ?_
  refine pp_getI dX6_readKnown_1 ff_X6_54 (by decide) sh_372 ?_
  refine go_aload_n dX6_readKnown_4 0 rfl ?_
  refine pp_getI dX6_readKnown_5 ff_X6_111 (by decide) sh_372 ?_
  refine go_icmp_le 17 dX6_readKnown_8 (by decide) (fun hc => ?_) (fun hc => ?_)
  · have h := go_ifp hc h
    refine go_aload_n dX6_readKnown_17 0 rfl ?_
    refine pp_getR dX6_readKnown_18 ff_X6_27 (Or.inl ⟨_, rfl⟩) sh_372 go_RF_tx ?_
    refine go_bipush (v := 10) dX6_readKnown_21 (by decide) ?_
    refine go_aload_n dX6_readKnown_23 0 rfl ?_
    refine pp_getI dX6_readKnown_24 ff_X6_54 (by decide) sh_372 ?_
    refine go_bipush (v := 10) dX6_readKnown_27 (by decide) ?_
    refine go_isub dX6_readKnown_29 ?_
    obtain ⟨q1, hq1, h⟩ := go_bind h
    refine pp_callV (as := [.int 10, .int ((μ.1 372 6) - 10)]) (st := []) (rv := (some (.int q1.1))) (μ1 := q1.2) (st1 := [.int q1.1]) dX6_readKnown_30 ll_X6_122 htx.1 (by decide) rfl (ctX8_emit htx hq1) rfl (Nat.le_of_ble_eq_true rfl) (Nat.le_of_ble_eq_true rfl) (go_Z_up w _) rfl rfl ?_
    refine go_pop dX6_readKnown_33 rfl ?_
    refine go_aload_n dX6_readKnown_34 0 rfl ?_
    obtain ⟨q2, hq2, h⟩ := go_bind h
    refine pp_callV (as := []) (st := []) (rv := none) (μ1 := q2) (st1 := []) dX6_readKnown_35 ll_X6_108 sh_372 (by decide) rfl (ctX6_advance  hq2) rfl (Nat.le_of_ble_eq_true rfl) (Nat.le_of_ble_eq_true rfl) (go_Z_up w _) rfl rfl ?_
    cases h
    exact go_vret dX6_readKnown_38 rfl hK
  · have h := go_ifn hc h
    refine go_aload_n dX6_readKnown_11 0 rfl ?_
    refine go_iconst (v := 5) dX6_readKnown_12 (by decide) ?_
    obtain ⟨q3, hq3, h⟩ := go_bind h
    refine pp_callV (as := [.int 5]) (st := []) (rv := none) (μ1 := q3) (st1 := []) dX6_readKnown_13 ll_X6_99 sh_372 (by decide) rfl (ctX6_refuse  hq3) rfl (Nat.le_of_ble_eq_true rfl) (Nat.le_of_ble_eq_true rfl) (go_Z_up w _) rfl rfl ?_
    cases h
    exact go_vret dX6_readKnown_16 rfl hK
theorem ctX6_readKnown {w : go_Wd} {tx : Nat} {μ : PM}  {μ1 : PM} (htx : go_isT tx) (h : fX6_readKnown tx μ = some μ1) : Ct w 1 0 0 mtX6_readKnown [.ref 372] (go_mk tx μ) (fun r' M' => r' = none ∧ M' = go_mk tx μ1) :=
  go_entry rfl (by decide) (Nat.le_of_ble_eq_true rfl) (cmX6_readKnown w tx _ μ htx _ h ⟨rfl, rfl⟩)
def fX6_valueHere (μ : PM)  : Option (Int32) :=
  (if (μ.1 372 5) < 0 then some (0) else (if 300 < (μ.1 372 5) then some (0) else go_chk (μ.1 372 5) 301 <| some ((μ.1 375 ((μ.1 372 5) : Int32).toNatClampNeg))))
set_option maxRecDepth 20000 in
set_option maxHeartbeats 4000000 in
theorem cmX6_valueHere (w : go_Wd) (tx : Nat) (Q : Option Value → go_M → Prop) (μ : PM)  (out : Int32) (h : fX6_valueHere μ = some out) (hK : Q (some (.int out)) (go_mk tx μ)) : Go w 0 0 0 mtX6_valueHere 0 [(0, .ref 372)] [] (go_mk tx μ) (go_Z w Q) := by
  unfold fX6_valueHere at h
  refine go_aload_n dX6_valueHere_0 0 rfl ?_
  refine pp_getI dX6_valueHere_1 ff_X6_51 (by decide) sh_372 ?_
  refine go_if_lt 29 dX6_valueHere_4 (by decide) (fun hc => ?_) (fun hc => ?_)
  · have h := go_ifp hc h
    refine go_iconst (v := 0) dX6_valueHere_29 (by decide) ?_
    cases h
    exact go_iret dX6_valueHere_30 rfl hK
  · have h := go_ifn hc h
    refine go_aload_n dX6_valueHere_7 0 rfl ?_
    refine pp_getI dX6_valueHere_8 ff_X6_51 (by decide) sh_372 ?_
    refine go_sipush (v := 300) dX6_valueHere_11 (by decide) ?_
    refine go_icmp_gt 29 dX6_valueHere_14 (by decide) (fun hc => ?_) (fun hc => ?_)
    · have h := go_ifp hc h
      refine go_iconst (v := 0) dX6_valueHere_29 (by decide) ?_
      cases h
      exact go_iret dX6_valueHere_30 rfl hK
    · have h := go_ifn hc h
      refine go_aload_n dX6_valueHere_17 0 rfl ?_
      refine pp_getR dX6_valueHere_18 ff_X6_18 (Or.inr ⟨_, rfl⟩) sh_372 rf_372_3 ?_
      refine go_aload_n dX6_valueHere_21 0 rfl ?_
      refine pp_getI dX6_valueHere_22 ff_X6_51 (by decide) sh_372 ?_
      obtain ⟨hz1, h⟩ := go_chk_e h
      refine pp_ild dX6_valueHere_25 sh_375 hz1 ?_
      refine go_goto 30 dX6_valueHere_26 (by decide) ?_
      cases h
      exact go_iret dX6_valueHere_30 rfl hK
theorem ctX6_valueHere {w : go_Wd} {tx : Nat} {μ : PM}  {r : Int32}  (h : fX6_valueHere μ = some r) : Ct w 0 0 0 mtX6_valueHere [.ref 372] (go_mk tx μ) (fun r' M' => r' = some (.int r) ∧ M' = go_mk tx μ) :=
  go_entry rfl (by decide) (Nat.le_of_ble_eq_true rfl) (cmX6_valueHere w tx _ μ  _ h ⟨rfl, rfl⟩)
def jjX6_takeWithin_31 (μ : PM) (a0 : Int32) (a1 : Int32)   : Option (Int32 × PM) :=
  (fX6_refuse μ 2).bind fun q2 => some ((a0, q2))
def fX6_takeWithin (μ : PM) (a0 : Int32) (a1 : Int32) : Option (Int32 × PM) :=
  (if (μ.1 372 6) = 32 then (fX6_valueHere μ).bind fun q1 => (if q1 < a0 then jjX6_takeWithin_31 μ a0 a1 else (if q1 ≤ a1 then (fX6_advance μ).bind fun q3 => some ((q1, q3)) else jjX6_takeWithin_31 μ a0 a1)) else (fX6_refuse μ 1).bind fun q4 => some ((a0, q4)))
set_option maxRecDepth 20000 in
set_option maxHeartbeats 4000000 in
theorem jqX6_takeWithin_31 (w : go_Wd) (tx : Nat) (Q : Option Value → go_M → Prop) (μ : PM) (a0 : Int32) (a1 : Int32)     (out : Int32 × PM) (h : jjX6_takeWithin_31 μ a0 a1   = some out) (hK : Q (some (.int out.1)) (go_mk tx out.2)) : Go w 1 0 0 mtX6_takeWithin 31 [(0, .ref 372), (1, .int a0)] [] (go_mk tx μ) (go_Z w Q) := by
  unfold jjX6_takeWithin_31 at h
  refine go_aload_n dX6_takeWithin_31 0 rfl ?_
  refine go_iconst (v := 2) dX6_takeWithin_32 (by decide) ?_
  obtain ⟨q2, hq2, h⟩ := go_bind h
  refine pp_callV (as := [.int 2]) (st := []) (rv := none) (μ1 := q2) (st1 := []) dX6_takeWithin_33 ll_X6_99 sh_372 (by decide) rfl (ctX6_refuse  hq2) rfl (Nat.le_of_ble_eq_true rfl) (Nat.le_of_ble_eq_true rfl) (go_Z_up w _) rfl rfl ?_
  refine go_iload_n dX6_takeWithin_36 1 rfl ?_
  cases h
  exact go_iret dX6_takeWithin_37 rfl hK
set_option maxRecDepth 20000 in
set_option maxHeartbeats 4000000 in
theorem cmX6_takeWithin (w : go_Wd) (tx : Nat) (Q : Option Value → go_M → Prop) (μ : PM) (a0 : Int32) (a1 : Int32) (out : Int32 × PM) (h : fX6_takeWithin μ a0 a1 = some out) (hK : Q (some (.int out.1)) (go_mk tx out.2)) : Go w 1 0 0 mtX6_takeWithin 0 [(0, .ref 372), (1, .int a0), (2, .int a1)] [] (go_mk tx μ) (go_Z w Q) := by
  unfold fX6_takeWithin at h
  refine go_aload_n dX6_takeWithin_0 0 rfl ?_
  refine pp_getI dX6_takeWithin_1 ff_X6_54 (by decide) sh_372 ?_
  refine go_bipush (v := 32) dX6_takeWithin_4 (by decide) ?_
  refine go_icmp_eq 16 dX6_takeWithin_6 (by decide) (fun hc => ?_) (fun hc => ?_)
  · have h := go_ifp hc h
    refine go_aload_n dX6_takeWithin_16 0 rfl ?_
    obtain ⟨q1, hq1, h⟩ := go_bind h
    refine pp_callV (as := []) (st := []) (rv := (some (.int q1))) (μ1 := μ) (st1 := [.int q1]) dX6_takeWithin_17 ll_X6_141 sh_372 (by decide) rfl (ctX6_valueHere  hq1) rfl (Nat.le_of_ble_eq_true rfl) (Nat.le_of_ble_eq_true rfl) (go_Z_up w _) rfl rfl ?_
    refine go_istore_n dX6_takeWithin_20 (by decide) rfl ?_
    show Go w 1 0 0 mtX6_takeWithin 21 [(3, .int q1), (0, .ref 372), (1, .int a0), (2, .int a1)] [] (go_mk tx μ) (go_Z w Q)
    refine go_iload_n dX6_takeWithin_21 0 rfl ?_
    refine go_iload_n dX6_takeWithin_22 2 rfl ?_
    refine go_icmp_lt 31 dX6_takeWithin_23 (by decide) (fun hc => ?_) (fun hc => ?_)
    · have h := go_ifp hc h
      refine go_pick [1, 2] rfl ?_
      exact jqX6_takeWithin_31 w tx Q μ a0 a1     _ h hK
    · have h := go_ifn hc h
      refine go_iload_n dX6_takeWithin_26 0 rfl ?_
      refine go_iload_n dX6_takeWithin_27 3 rfl ?_
      refine go_icmp_le 38 dX6_takeWithin_28 (by decide) (fun hc => ?_) (fun hc => ?_)
      · have h := go_ifp hc h
        refine go_aload_n dX6_takeWithin_38 1 rfl ?_
        obtain ⟨q3, hq3, h⟩ := go_bind h
        refine pp_callV (as := []) (st := []) (rv := none) (μ1 := q3) (st1 := []) dX6_takeWithin_39 ll_X6_108 sh_372 (by decide) rfl (ctX6_advance  hq3) rfl (Nat.le_of_ble_eq_true rfl) (Nat.le_of_ble_eq_true rfl) (go_Z_up w _) rfl rfl ?_
        refine go_iload_n dX6_takeWithin_42 0 rfl ?_
        cases h
        exact go_iret dX6_takeWithin_43 rfl hK
      · have h := go_ifn hc h
        refine go_pick [1, 2] rfl ?_
        exact jqX6_takeWithin_31 w tx Q μ a0 a1     _ h hK
  · have h := go_ifn hc h
    refine go_aload_n dX6_takeWithin_9 0 rfl ?_
    refine go_iconst (v := 1) dX6_takeWithin_10 (by decide) ?_
    obtain ⟨q4, hq4, h⟩ := go_bind h
    refine pp_callV (as := [.int 1]) (st := []) (rv := none) (μ1 := q4) (st1 := []) dX6_takeWithin_11 ll_X6_99 sh_372 (by decide) rfl (ctX6_refuse  hq4) rfl (Nat.le_of_ble_eq_true rfl) (Nat.le_of_ble_eq_true rfl) (go_Z_up w _) rfl rfl ?_
    refine go_iload_n dX6_takeWithin_14 1 rfl ?_
    cases h
    exact go_iret dX6_takeWithin_15 rfl hK
theorem ctX6_takeWithin {w : go_Wd} {tx : Nat} {μ : PM} {a0 : Int32} {a1 : Int32} {r : Int32} {μ1 : PM}  (h : fX6_takeWithin μ a0 a1 = some (r, μ1)) : Ct w 1 0 0 mtX6_takeWithin [.ref 372, .int a0, .int a1] (go_mk tx μ) (fun r' M' => r' = some (.int r) ∧ M' = go_mk tx μ1) :=
  go_entry rfl (by decide) (Nat.le_of_ble_eq_true rfl) (cmX6_takeWithin w tx _ μ a0 a1 _ h ⟨rfl, rfl⟩)
def fX6_opens (μ : PM) (a0 : Int32) : Option (Int32 × PM) :=
  (if a0 < 8 then (fX6_advance μ).bind fun q1 => some ((1, q1)) else (fX6_refuse μ 3).bind fun q2 => some ((0, q2)))
set_option maxRecDepth 20000 in
set_option maxHeartbeats 4000000 in
theorem cmX6_opens (w : go_Wd) (tx : Nat) (Q : Option Value → go_M → Prop) (μ : PM) (a0 : Int32) (out : Int32 × PM) (h : fX6_opens μ a0 = some out) (hK : Q (some (.int out.1)) (go_mk tx out.2)) : Go w 1 0 0 mtX6_opens 0 [(0, .ref 372), (1, .int a0)] [] (go_mk tx μ) (go_Z w Q) := by
  unfold fX6_opens at h
  refine go_iload_n dX6_opens_0 1 rfl ?_
  refine go_bipush (v := 8) dX6_opens_1 (by decide) ?_
  refine go_icmp_lt 13 dX6_opens_3 (by decide) (fun hc => ?_) (fun hc => ?_)
  · have h := go_ifp hc h
    refine go_aload_n dX6_opens_13 0 rfl ?_
    obtain ⟨q1, hq1, h⟩ := go_bind h
    refine pp_callV (as := []) (st := []) (rv := none) (μ1 := q1) (st1 := []) dX6_opens_14 ll_X6_108 sh_372 (by decide) rfl (ctX6_advance  hq1) rfl (Nat.le_of_ble_eq_true rfl) (Nat.le_of_ble_eq_true rfl) (go_Z_up w _) rfl rfl ?_
    refine go_iconst (v := 1) dX6_opens_17 (by decide) ?_
    cases h
    exact go_zret dX6_opens_18 rfl (Or.inr rfl) hK
  · have h := go_ifn hc h
    refine go_aload_n dX6_opens_6 0 rfl ?_
    refine go_iconst (v := 3) dX6_opens_7 (by decide) ?_
    obtain ⟨q2, hq2, h⟩ := go_bind h
    refine pp_callV (as := [.int 3]) (st := []) (rv := none) (μ1 := q2) (st1 := []) dX6_opens_8 ll_X6_99 sh_372 (by decide) rfl (ctX6_refuse  hq2) rfl (Nat.le_of_ble_eq_true rfl) (Nat.le_of_ble_eq_true rfl) (go_Z_up w _) rfl rfl ?_
    refine go_iconst (v := 0) dX6_opens_11 (by decide) ?_
    cases h
    exact go_zret dX6_opens_12 rfl (Or.inl rfl) hK
theorem ctX6_opens {w : go_Wd} {tx : Nat} {μ : PM} {a0 : Int32} {r : Int32} {μ1 : PM}  (h : fX6_opens μ a0 = some (r, μ1)) : Ct w 1 0 0 mtX6_opens [.ref 372, .int a0] (go_mk tx μ) (fun r' M' => r' = some (.int r) ∧ M' = go_mk tx μ1) :=
  go_entry rfl (by decide) (Nat.le_of_ble_eq_true rfl) (cmX6_opens w tx _ μ a0 _ h ⟨rfl, rfl⟩)
def fX6_expect (μ : PM) (a0 : Int32) : Option (PM) :=
  (if (μ.1 372 6) = a0 then (fX6_advance μ).bind fun q2 => some (q2) else (fX6_refuse μ 1).bind fun q1 => some (q1))
set_option maxRecDepth 20000 in
set_option maxHeartbeats 4000000 in
theorem cmX6_expect (w : go_Wd) (tx : Nat) (Q : Option Value → go_M → Prop) (μ : PM) (a0 : Int32) (out : PM) (h : fX6_expect μ a0 = some out) (hK : Q none (go_mk tx out)) : Go w 1 0 0 mtX6_expect 0 [(0, .ref 372), (1, .int a0)] [] (go_mk tx μ) (go_Z w Q) := by
  unfold fX6_expect at h
  refine go_aload_n dX6_expect_0 0 rfl ?_
  refine pp_getI dX6_expect_1 ff_X6_54 (by decide) sh_372 ?_
  refine go_iload_n dX6_expect_4 1 rfl ?_
  refine go_icmp_ne 15 dX6_expect_5 (by decide) (fun hc => ?_) (fun hc => ?_)
  · have h := go_ifn hc h
    refine go_aload_n dX6_expect_15 0 rfl ?_
    refine go_iconst (v := 1) dX6_expect_16 (by decide) ?_
    obtain ⟨q1, hq1, h⟩ := go_bind h
    refine pp_callV (as := [.int 1]) (st := []) (rv := none) (μ1 := q1) (st1 := []) dX6_expect_17 ll_X6_99 sh_372 (by decide) rfl (ctX6_refuse  hq1) rfl (Nat.le_of_ble_eq_true rfl) (Nat.le_of_ble_eq_true rfl) (go_Z_up w _) rfl rfl ?_
    cases h
    exact go_vret dX6_expect_20 rfl hK
  · have h := go_ifp hc h
    refine go_aload_n dX6_expect_8 0 rfl ?_
    obtain ⟨q2, hq2, h⟩ := go_bind h
    refine pp_callV (as := []) (st := []) (rv := none) (μ1 := q2) (st1 := []) dX6_expect_9 ll_X6_108 sh_372 (by decide) rfl (ctX6_advance  hq2) rfl (Nat.le_of_ble_eq_true rfl) (Nat.le_of_ble_eq_true rfl) (go_Z_up w _) rfl rfl ?_
    refine go_goto 20 dX6_expect_12 (by decide) ?_
    cases h
    exact go_vret dX6_expect_20 rfl hK
theorem ctX6_expect {w : go_Wd} {tx : Nat} {μ : PM} {a0 : Int32} {μ1 : PM}  (h : fX6_expect μ a0 = some μ1) : Ct w 1 0 0 mtX6_expect [.ref 372, .int a0] (go_mk tx μ) (fun r' M' => r' = none ∧ M' = go_mk tx μ1) :=
  go_entry rfl (by decide) (Nat.le_of_ble_eq_true rfl) (cmX6_expect w tx _ μ a0 _ h ⟨rfl, rfl⟩)
def jjX6_readAsk_B_70 (tx : Nat) (μ : PM) (rec : Nat → PM → Int32 → Option PM) (a0 : Int32) (v2 : Int32)  : Option (PM) :=
  (fX6_advance μ).bind fun q2 => (rec 0 q2 a0).bind fun q3 => (fX8_emit q3 tx v2 0).bind fun q4 => some (q4.2)
def jjX6_readAsk_B_58 (tx : Nat) (μ : PM) (rec : Nat → PM → Int32 → Option PM) (a0 : Int32) (v2 : Int32)  : Option (PM) :=
  (if v2 = 51 then jjX6_readAsk_B_70 tx μ rec a0 v2 else (if v2 = 52 then jjX6_readAsk_B_70 tx μ rec a0 v2 else (fX6_refuse μ 1).bind fun q5 => some (q5)))
def fX6_readAsk_B (tx : Nat) (μ : PM) (rec : Nat → PM → Int32 → Option PM) (a0 : Int32) : Option (PM) :=
  (if (μ.1 372 6) = 28 then (fX6_opens μ a0).bind fun q6 => (if q6.1 = 0 then some (q6.2) else (rec 6 q6.2 (a0 + 1)).bind fun q7 => (fX8_emit q7 tx 28 0).bind fun q8 => some (q8.2)) else (rec 0 μ a0).bind fun q1 => (if (q1.1 372 6) < 40 then jjX6_readAsk_B_58 tx q1 rec a0 ((q1.1 372 6)) else (if (q1.1 372 6) ≤ 43 then jjX6_readAsk_B_70 tx q1 rec a0 ((q1.1 372 6)) else jjX6_readAsk_B_58 tx q1 rec a0 ((q1.1 372 6)))))
set_option maxRecDepth 20000 in
set_option maxHeartbeats 4000000 in
theorem jqX6_readAsk_B_70 (w : go_Wd) (tx : Nat) (Q : Option Value → go_M → Prop) (dd : Nat) (μ : PM) (rec : Nat → PM → Int32 → Option PM) (a0 : Int32) (htx : go_isT tx) (hrec : ∀ (k : Nat) (μ : PM) (x : Int32) (out : PM), rec k μ x = some out → Ct w dd 0 0 (rdMt k) [.ref 372, .int x] (go_mk tx μ) (fun r' M' => r' = none ∧ M' = go_mk tx out)) (v2 : Int32)    (out : PM) (h : jjX6_readAsk_B_70 tx μ rec a0 v2  = some out) (hK : Q none (go_mk tx out)) : Go w (dd + 9) 0 0 mtX6_readAsk 70 [(0, .ref 372), (1, .int a0), (2, .int v2)] [] (go_mk tx μ) (go_Z w Q) := by
  unfold jjX6_readAsk_B_70 at h
  refine go_aload_n dX6_readAsk_70 0 rfl ?_
  obtain ⟨q2, hq2, h⟩ := go_bind h
  refine pp_callV (as := []) (st := []) (rv := none) (μ1 := q2) (st1 := []) dX6_readAsk_71 ll_X6_108 sh_372 (by decide) rfl (ctX6_advance  hq2) rfl (by omega) (Nat.le_of_ble_eq_true rfl) (go_Z_up w _) rfl rfl ?_
  refine go_aload_n dX6_readAsk_74 0 rfl ?_
  refine go_iload_n dX6_readAsk_75 1 rfl ?_
  obtain ⟨q3, hq3, h⟩ := go_bind h
  refine pp_callV (as := [.int a0]) (st := []) (rv := none) (μ1 := q3) (st1 := []) dX6_readAsk_76 ll_X6_119 sh_372 (by decide) rfl (hrec 0 q2 a0 _ hq3) rfl (by omega) (Nat.le_of_ble_eq_true rfl) (go_Z_up w _) rfl rfl ?_
  refine go_aload_n dX6_readAsk_79 0 rfl ?_
  refine pp_getR dX6_readAsk_80 ff_X6_27 (Or.inl ⟨_, rfl⟩) sh_372 go_RF_tx ?_
  refine go_iload_n dX6_readAsk_83 2 rfl ?_
  refine go_iconst (v := 0) dX6_readAsk_84 (by decide) ?_
  obtain ⟨q4, hq4, h⟩ := go_bind h
  refine pp_callV (as := [.int v2, .int 0]) (st := []) (rv := (some (.int q4.1))) (μ1 := q4.2) (st1 := [.int q4.1]) dX6_readAsk_85 ll_X6_122 htx.1 (by decide) rfl (ctX8_emit htx hq4) rfl (by omega) (Nat.le_of_ble_eq_true rfl) (go_Z_up w _) rfl rfl ?_
  refine go_pop dX6_readAsk_88 rfl ?_
  refine go_goto 97 dX6_readAsk_89 (by decide) ?_
  cases h
  exact go_vret dX6_readAsk_97 rfl hK
set_option maxRecDepth 20000 in
set_option maxHeartbeats 4000000 in
theorem jqX6_readAsk_B_58 (w : go_Wd) (tx : Nat) (Q : Option Value → go_M → Prop) (dd : Nat) (μ : PM) (rec : Nat → PM → Int32 → Option PM) (a0 : Int32) (htx : go_isT tx) (hrec : ∀ (k : Nat) (μ : PM) (x : Int32) (out : PM), rec k μ x = some out → Ct w dd 0 0 (rdMt k) [.ref 372, .int x] (go_mk tx μ) (fun r' M' => r' = none ∧ M' = go_mk tx out)) (v2 : Int32)    (out : PM) (h : jjX6_readAsk_B_58 tx μ rec a0 v2  = some out) (hK : Q none (go_mk tx out)) : Go w (dd + 9) 0 0 mtX6_readAsk 58 [(0, .ref 372), (1, .int a0), (2, .int v2)] [] (go_mk tx μ) (go_Z w Q) := by
  unfold jjX6_readAsk_B_58 at h
  refine go_iload_n dX6_readAsk_58 2 rfl ?_
  refine go_bipush (v := 51) dX6_readAsk_59 (by decide) ?_
  refine go_icmp_eq 70 dX6_readAsk_61 (by decide) (fun hc => ?_) (fun hc => ?_)
  · have h := go_ifp hc h
    refine go_pick [0, 1, 2] rfl ?_
    exact jqX6_readAsk_B_70 w tx Q dd μ rec a0 htx hrec v2    _ h hK
  · have h := go_ifn hc h
    refine go_iload_n dX6_readAsk_64 2 rfl ?_
    refine go_bipush (v := 52) dX6_readAsk_65 (by decide) ?_
    refine go_icmp_ne 92 dX6_readAsk_67 (by decide) (fun hc => ?_) (fun hc => ?_)
    · have h := go_ifn hc h
      refine go_aload_n dX6_readAsk_92 0 rfl ?_
      refine go_iconst (v := 1) dX6_readAsk_93 (by decide) ?_
      obtain ⟨q5, hq5, h⟩ := go_bind h
      refine pp_callV (as := [.int 1]) (st := []) (rv := none) (μ1 := q5) (st1 := []) dX6_readAsk_94 ll_X6_99 sh_372 (by decide) rfl (ctX6_refuse  hq5) rfl (by omega) (Nat.le_of_ble_eq_true rfl) (go_Z_up w _) rfl rfl ?_
      cases h
      exact go_vret dX6_readAsk_97 rfl hK
    · have h := go_ifp hc h
      refine go_pick [0, 1, 2] rfl ?_
      exact jqX6_readAsk_B_70 w tx Q dd μ rec a0 htx hrec v2    _ h hK
set_option maxRecDepth 20000 in
set_option maxHeartbeats 4000000 in
theorem cmX6_readAsk_B (w : go_Wd) (tx : Nat) (Q : Option Value → go_M → Prop) (dd : Nat) (μ : PM) (rec : Nat → PM → Int32 → Option PM) (a0 : Int32) (htx : go_isT tx) (hrec : ∀ (k : Nat) (μ : PM) (x : Int32) (out : PM), rec k μ x = some out → Ct w dd 0 0 (rdMt k) [.ref 372, .int x] (go_mk tx μ) (fun r' M' => r' = none ∧ M' = go_mk tx out)) (out : PM) (h : fX6_readAsk_B tx μ rec a0 = some out) (hK : Q none (go_mk tx out)) : Go w (dd + 9) 0 0 mtX6_readAsk 0 [(0, .ref 372), (1, .int a0)] [] (go_mk tx μ) (go_Z w Q) := by
  unfold fX6_readAsk_B at h
  refine go_aload_n dX6_readAsk_0 0 rfl ?_
  refine pp_getI dX6_readAsk_1 ff_X6_54 (by decide) sh_372 ?_
  refine go_bipush (v := 28) dX6_readAsk_4 (by decide) ?_
  refine go_icmp_ne 36 dX6_readAsk_6 (by decide) (fun hc => ?_) (fun hc => ?_)
  · have h := go_ifn hc h
    refine go_aload_n dX6_readAsk_36 0 rfl ?_
    refine go_iload_n dX6_readAsk_37 1 rfl ?_
    obtain ⟨q1, hq1, h⟩ := go_bind h
    refine pp_callV (as := [.int a0]) (st := []) (rv := none) (μ1 := q1) (st1 := []) dX6_readAsk_38 ll_X6_119 sh_372 (by decide) rfl (hrec 0 μ a0 _ hq1) rfl (by omega) (Nat.le_of_ble_eq_true rfl) (go_Z_up w _) rfl rfl ?_
    refine go_aload_n dX6_readAsk_41 0 rfl ?_
    refine pp_getI dX6_readAsk_42 ff_X6_54 (by decide) sh_372 ?_
    refine go_istore_n dX6_readAsk_45 (by decide) rfl ?_
    show Go w (dd + 9) 0 0 mtX6_readAsk 46 [(2, .int (q1.1 372 6)), (0, .ref 372), (1, .int a0)] [] (go_mk tx q1) (go_Z w Q)
    refine go_iload_n dX6_readAsk_46 0 rfl ?_
    refine go_bipush (v := 40) dX6_readAsk_47 (by decide) ?_
    refine go_icmp_lt 58 dX6_readAsk_49 (by decide) (fun hc => ?_) (fun hc => ?_)
    · have h := go_ifp hc h
      refine go_pick [1, 2, 0] rfl ?_
      exact jqX6_readAsk_B_58 w tx Q dd q1 rec a0 htx hrec ((q1.1 372 6))    _ h hK
    · have h := go_ifn hc h
      refine go_iload_n dX6_readAsk_52 0 rfl ?_
      refine go_bipush (v := 43) dX6_readAsk_53 (by decide) ?_
      refine go_icmp_le 70 dX6_readAsk_55 (by decide) (fun hc => ?_) (fun hc => ?_)
      · have h := go_ifp hc h
        refine go_pick [1, 2, 0] rfl ?_
        exact jqX6_readAsk_B_70 w tx Q dd q1 rec a0 htx hrec ((q1.1 372 6))    _ h hK
      · have h := go_ifn hc h
        refine go_pick [1, 2, 0] rfl ?_
        exact jqX6_readAsk_B_58 w tx Q dd q1 rec a0 htx hrec ((q1.1 372 6))    _ h hK
  · have h := go_ifp hc h
    refine go_aload_n dX6_readAsk_9 0 rfl ?_
    refine go_iload_n dX6_readAsk_10 1 rfl ?_
    obtain ⟨q6, hq6, h⟩ := go_bind h
    refine pp_callV (as := [.int a0]) (st := []) (rv := (some (.int q6.1))) (μ1 := q6.2) (st1 := [.int q6.1]) dX6_readAsk_11 ll_X6_156 sh_372 (by decide) rfl (ctX6_opens  hq6) rfl (by omega) (Nat.le_of_ble_eq_true rfl) (go_Z_up w _) rfl rfl ?_
    refine go_if_eq 35 dX6_readAsk_14 (by decide) (fun hc => ?_) (fun hc => ?_)
    · have h := go_ifp hc h
      cases h
      exact go_vret dX6_readAsk_35 rfl hK
    · have h := go_ifn hc h
      refine go_aload_n dX6_readAsk_17 0 rfl ?_
      refine go_iload_n dX6_readAsk_18 1 rfl ?_
      refine go_iconst (v := 1) dX6_readAsk_19 (by decide) ?_
      refine go_iadd dX6_readAsk_20 ?_
      obtain ⟨q7, hq7, h⟩ := go_bind h
      refine pp_callV (as := [.int (a0 + 1)]) (st := []) (rv := none) (μ1 := q7) (st1 := []) dX6_readAsk_21 ll_X6_171 sh_372 (by decide) rfl (hrec 6 q6.2 (a0 + 1) _ hq7) rfl (by omega) (Nat.le_of_ble_eq_true rfl) (go_Z_up w _) rfl rfl ?_
      refine go_aload_n dX6_readAsk_24 0 rfl ?_
      refine pp_getR dX6_readAsk_25 ff_X6_27 (Or.inl ⟨_, rfl⟩) sh_372 go_RF_tx ?_
      refine go_bipush (v := 28) dX6_readAsk_28 (by decide) ?_
      refine go_iconst (v := 0) dX6_readAsk_30 (by decide) ?_
      obtain ⟨q8, hq8, h⟩ := go_bind h
      refine pp_callV (as := [.int 28, .int 0]) (st := []) (rv := (some (.int q8.1))) (μ1 := q8.2) (st1 := [.int q8.1]) dX6_readAsk_31 ll_X6_122 htx.1 (by decide) rfl (ctX8_emit htx hq8) rfl (by omega) (Nat.le_of_ble_eq_true rfl) (go_Z_up w _) rfl rfl ?_
      refine go_pop dX6_readAsk_34 rfl ?_
      cases h
      exact go_vret dX6_readAsk_35 rfl hK
def lbX6_readBoth_B_7 (tx : Nat) (rec : Nat → PM → Int32 → Option PM) (a0 : Int32)  (v2 : Int32) (μ : PM) : Option ((Int32 × PM) ⊕ (PM)) :=
  (if 300 ≤ v2 then some (.inr (μ)) else (if (μ.1 372 6) = 27 then (fX6_advance μ).bind fun q2 => (rec 6 q2 a0).bind fun q3 => (fX8_emit q3 tx 27 0).bind fun q4 => some (.inl ((v2 + 1), q4.2)) else some (.inr (μ))))
def fX6_readBoth_B (tx : Nat) (μ : PM) (rec : Nat → PM → Int32 → Option PM) (a0 : Int32) : Option (PM) :=
  (rec 6 μ a0).bind fun q1 => ((lp (fun s => lbX6_readBoth_B_7 tx rec a0 s.1 s.2) go_fuel (0, q1)).bind fun ρ5 => some ρ5)
def ggX6_readBoth_B_7 (w : go_Wd) (tx : Nat) (Q : Option Value → go_M → Prop) (dd : Nat) (rec : Nat → PM → Int32 → Option PM) (a0 : Int32)  (s : Int32 × PM) : Prop := Go w (dd + 9) 0 0 mtX6_readBoth 7 [(0, .ref 372), (1, .int a0), (2, .int s.1)] [] (go_mk tx s.2) (go_Z w Q)
def eeX6_readBoth_B_7 (w : go_Wd) (tx : Nat) (Q : Option Value → go_M → Prop) (dd : Nat) (rec : Nat → PM → Int32 → Option PM) (a0 : Int32)  (y : PM) : Prop := Q none (go_mk tx y)
set_option maxRecDepth 20000 in
set_option maxHeartbeats 4000000 in
theorem lqX6_readBoth_B_7 (w : go_Wd) (tx : Nat) (Q : Option Value → go_M → Prop) (dd : Nat) (rec : Nat → PM → Int32 → Option PM) (a0 : Int32) (htx : go_isT tx) (hrec : ∀ (k : Nat) (μ : PM) (x : Int32) (out : PM), rec k μ x = some out → Ct w dd 0 0 (rdMt k) [.ref 372, .int x] (go_mk tx μ) (fun r' M' => r' = none ∧ M' = go_mk tx out))   (v2 : Int32) (μ : PM) (out : (Int32 × PM) ⊕ (PM)) (h : lbX6_readBoth_B_7 tx rec a0  v2 μ = some out) (hK : go_out (ggX6_readBoth_B_7 w tx Q dd rec a0 ) (eeX6_readBoth_B_7 w tx Q dd rec a0 ) out) : ggX6_readBoth_B_7 w tx Q dd rec a0  (v2, μ) := by
  unfold lbX6_readBoth_B_7 at h
  show Go w (dd + 9) 0 0 mtX6_readBoth 7 [(0, .ref 372), (1, .int a0), (2, .int v2)] [] (go_mk tx μ) (go_Z w Q)
  refine go_iload_n dX6_readBoth_7 2 rfl ?_
  refine go_sipush (v := 300) dX6_readBoth_8 (by decide) ?_
  refine go_icmp_ge 49 dX6_readBoth_11 (by decide) (fun hc => ?_) (fun hc => ?_)
  · have h := go_ifp hc h
    cases h
    exact go_vret dX6_readBoth_49 rfl hK
  · have h := go_ifn hc h
    refine go_aload_n dX6_readBoth_14 0 rfl ?_
    refine pp_getI dX6_readBoth_15 ff_X6_54 (by decide) sh_372 ?_
    refine go_bipush (v := 27) dX6_readBoth_18 (by decide) ?_
    refine go_icmp_ne 49 dX6_readBoth_20 (by decide) (fun hc => ?_) (fun hc => ?_)
    · have h := go_ifn hc h
      cases h
      exact go_vret dX6_readBoth_49 rfl hK
    · have h := go_ifp hc h
      refine go_aload_n dX6_readBoth_23 0 rfl ?_
      obtain ⟨q2, hq2, h⟩ := go_bind h
      refine pp_callV (as := []) (st := []) (rv := none) (μ1 := q2) (st1 := []) dX6_readBoth_24 ll_X6_108 sh_372 (by decide) rfl (ctX6_advance  hq2) rfl (by omega) (Nat.le_of_ble_eq_true rfl) (go_Z_up w _) rfl rfl ?_
      refine go_aload_n dX6_readBoth_27 0 rfl ?_
      refine go_iload_n dX6_readBoth_28 1 rfl ?_
      obtain ⟨q3, hq3, h⟩ := go_bind h
      refine pp_callV (as := [.int a0]) (st := []) (rv := none) (μ1 := q3) (st1 := []) dX6_readBoth_29 ll_X6_171 sh_372 (by decide) rfl (hrec 6 q2 a0 _ hq3) rfl (by omega) (Nat.le_of_ble_eq_true rfl) (go_Z_up w _) rfl rfl ?_
      refine go_aload_n dX6_readBoth_32 0 rfl ?_
      refine pp_getR dX6_readBoth_33 ff_X6_27 (Or.inl ⟨_, rfl⟩) sh_372 go_RF_tx ?_
      refine go_bipush (v := 27) dX6_readBoth_36 (by decide) ?_
      refine go_iconst (v := 0) dX6_readBoth_38 (by decide) ?_
      obtain ⟨q4, hq4, h⟩ := go_bind h
      refine pp_callV (as := [.int 27, .int 0]) (st := []) (rv := (some (.int q4.1))) (μ1 := q4.2) (st1 := [.int q4.1]) dX6_readBoth_39 ll_X6_122 htx.1 (by decide) rfl (ctX8_emit htx hq4) rfl (by omega) (Nat.le_of_ble_eq_true rfl) (go_Z_up w _) rfl rfl ?_
      refine go_pop dX6_readBoth_42 rfl ?_
      refine go_iinc (v := (v2 + 1)) dX6_readBoth_43 2 rfl rfl (by decide) rfl ?_
      show Go w (dd + 9) 0 0 mtX6_readBoth 46 [(2, .int (v2 + 1)), (0, .ref 372), (1, .int a0)] [] (go_mk tx q4.2) (go_Z w Q)
      refine go_goto 7 dX6_readBoth_46 (by decide) ?_
      cases h
      have hK : Go w (dd + 9) 0 0 mtX6_readBoth 7 [(0, .ref 372), (1, .int a0), (2, .int (v2 + 1))] [] (go_mk tx q4.2) (go_Z w Q) := hK
      exact go_pick [1, 2, 0] rfl hK
set_option maxRecDepth 20000 in
set_option maxHeartbeats 4000000 in
theorem cmX6_readBoth_B (w : go_Wd) (tx : Nat) (Q : Option Value → go_M → Prop) (dd : Nat) (μ : PM) (rec : Nat → PM → Int32 → Option PM) (a0 : Int32) (htx : go_isT tx) (hrec : ∀ (k : Nat) (μ : PM) (x : Int32) (out : PM), rec k μ x = some out → Ct w dd 0 0 (rdMt k) [.ref 372, .int x] (go_mk tx μ) (fun r' M' => r' = none ∧ M' = go_mk tx out)) (out : PM) (h : fX6_readBoth_B tx μ rec a0 = some out) (hK : Q none (go_mk tx out)) : Go w (dd + 9) 0 0 mtX6_readBoth 0 [(0, .ref 372), (1, .int a0)] [] (go_mk tx μ) (go_Z w Q) := by
  unfold fX6_readBoth_B at h
  refine go_aload_n dX6_readBoth_0 0 rfl ?_
  refine go_iload_n dX6_readBoth_1 1 rfl ?_
  obtain ⟨q1, hq1, h⟩ := go_bind h
  refine pp_callV (as := [.int a0]) (st := []) (rv := none) (μ1 := q1) (st1 := []) dX6_readBoth_2 ll_X6_171 sh_372 (by decide) rfl (hrec 6 μ a0 _ hq1) rfl (by omega) (Nat.le_of_ble_eq_true rfl) (go_Z_up w _) rfl rfl ?_
  refine go_iconst (v := 0) dX6_readBoth_5 (by decide) ?_
  refine go_istore_n dX6_readBoth_6 (by decide) rfl ?_
  show Go w (dd + 9) 0 0 mtX6_readBoth 7 [(2, .int 0), (0, .ref 372), (1, .int a0)] [] (go_mk tx q1) (go_Z w Q)
  obtain ⟨ρ5, hρ5, h⟩ := go_bind h
  refine go_pick [1, 2, 0] rfl ?_
  refine go_lp (G := ggX6_readBoth_B_7 w tx Q dd rec a0 ) (E := eeX6_readBoth_B_7 w tx Q dd rec a0 ) (fun s out h hK => lqX6_readBoth_B_7 w tx Q dd rec a0 htx hrec   s.1 s.2 out h hK) go_fuel (0, q1) ρ5 hρ5 ?_
  cases h
  exact hK
def lbX6_readEither_B_7 (tx : Nat) (rec : Nat → PM → Int32 → Option PM) (a0 : Int32)  (v2 : Int32) (μ : PM) : Option ((Int32 × PM) ⊕ (PM)) :=
  (if 300 ≤ v2 then some (.inr (μ)) else (if (μ.1 372 6) = 26 then (fX6_advance μ).bind fun q2 => (rec 5 q2 a0).bind fun q3 => (fX8_emit q3 tx 26 0).bind fun q4 => some (.inl ((v2 + 1), q4.2)) else some (.inr (μ))))
def fX6_readEither_B (tx : Nat) (μ : PM) (rec : Nat → PM → Int32 → Option PM) (a0 : Int32) : Option (PM) :=
  (rec 5 μ a0).bind fun q1 => ((lp (fun s => lbX6_readEither_B_7 tx rec a0 s.1 s.2) go_fuel (0, q1)).bind fun ρ5 => some ρ5)
def ggX6_readEither_B_7 (w : go_Wd) (tx : Nat) (Q : Option Value → go_M → Prop) (dd : Nat) (rec : Nat → PM → Int32 → Option PM) (a0 : Int32)  (s : Int32 × PM) : Prop := Go w (dd + 9) 0 0 mtX6_readEither 7 [(0, .ref 372), (1, .int a0), (2, .int s.1)] [] (go_mk tx s.2) (go_Z w Q)
def eeX6_readEither_B_7 (w : go_Wd) (tx : Nat) (Q : Option Value → go_M → Prop) (dd : Nat) (rec : Nat → PM → Int32 → Option PM) (a0 : Int32)  (y : PM) : Prop := Q none (go_mk tx y)
set_option maxRecDepth 20000 in
set_option maxHeartbeats 4000000 in
theorem lqX6_readEither_B_7 (w : go_Wd) (tx : Nat) (Q : Option Value → go_M → Prop) (dd : Nat) (rec : Nat → PM → Int32 → Option PM) (a0 : Int32) (htx : go_isT tx) (hrec : ∀ (k : Nat) (μ : PM) (x : Int32) (out : PM), rec k μ x = some out → Ct w dd 0 0 (rdMt k) [.ref 372, .int x] (go_mk tx μ) (fun r' M' => r' = none ∧ M' = go_mk tx out))   (v2 : Int32) (μ : PM) (out : (Int32 × PM) ⊕ (PM)) (h : lbX6_readEither_B_7 tx rec a0  v2 μ = some out) (hK : go_out (ggX6_readEither_B_7 w tx Q dd rec a0 ) (eeX6_readEither_B_7 w tx Q dd rec a0 ) out) : ggX6_readEither_B_7 w tx Q dd rec a0  (v2, μ) := by
  unfold lbX6_readEither_B_7 at h
  show Go w (dd + 9) 0 0 mtX6_readEither 7 [(0, .ref 372), (1, .int a0), (2, .int v2)] [] (go_mk tx μ) (go_Z w Q)
  refine go_iload_n dX6_readEither_7 2 rfl ?_
  refine go_sipush (v := 300) dX6_readEither_8 (by decide) ?_
  refine go_icmp_ge 49 dX6_readEither_11 (by decide) (fun hc => ?_) (fun hc => ?_)
  · have h := go_ifp hc h
    cases h
    exact go_vret dX6_readEither_49 rfl hK
  · have h := go_ifn hc h
    refine go_aload_n dX6_readEither_14 0 rfl ?_
    refine pp_getI dX6_readEither_15 ff_X6_54 (by decide) sh_372 ?_
    refine go_bipush (v := 26) dX6_readEither_18 (by decide) ?_
    refine go_icmp_ne 49 dX6_readEither_20 (by decide) (fun hc => ?_) (fun hc => ?_)
    · have h := go_ifn hc h
      cases h
      exact go_vret dX6_readEither_49 rfl hK
    · have h := go_ifp hc h
      refine go_aload_n dX6_readEither_23 0 rfl ?_
      obtain ⟨q2, hq2, h⟩ := go_bind h
      refine pp_callV (as := []) (st := []) (rv := none) (μ1 := q2) (st1 := []) dX6_readEither_24 ll_X6_108 sh_372 (by decide) rfl (ctX6_advance  hq2) rfl (by omega) (Nat.le_of_ble_eq_true rfl) (go_Z_up w _) rfl rfl ?_
      refine go_aload_n dX6_readEither_27 0 rfl ?_
      refine go_iload_n dX6_readEither_28 1 rfl ?_
      obtain ⟨q3, hq3, h⟩ := go_bind h
      refine pp_callV (as := [.int a0]) (st := []) (rv := none) (μ1 := q3) (st1 := []) dX6_readEither_29 ll_X6_168 sh_372 (by decide) rfl (hrec 5 q2 a0 _ hq3) rfl (by omega) (Nat.le_of_ble_eq_true rfl) (go_Z_up w _) rfl rfl ?_
      refine go_aload_n dX6_readEither_32 0 rfl ?_
      refine pp_getR dX6_readEither_33 ff_X6_27 (Or.inl ⟨_, rfl⟩) sh_372 go_RF_tx ?_
      refine go_bipush (v := 26) dX6_readEither_36 (by decide) ?_
      refine go_iconst (v := 0) dX6_readEither_38 (by decide) ?_
      obtain ⟨q4, hq4, h⟩ := go_bind h
      refine pp_callV (as := [.int 26, .int 0]) (st := []) (rv := (some (.int q4.1))) (μ1 := q4.2) (st1 := [.int q4.1]) dX6_readEither_39 ll_X6_122 htx.1 (by decide) rfl (ctX8_emit htx hq4) rfl (by omega) (Nat.le_of_ble_eq_true rfl) (go_Z_up w _) rfl rfl ?_
      refine go_pop dX6_readEither_42 rfl ?_
      refine go_iinc (v := (v2 + 1)) dX6_readEither_43 2 rfl rfl (by decide) rfl ?_
      show Go w (dd + 9) 0 0 mtX6_readEither 46 [(2, .int (v2 + 1)), (0, .ref 372), (1, .int a0)] [] (go_mk tx q4.2) (go_Z w Q)
      refine go_goto 7 dX6_readEither_46 (by decide) ?_
      cases h
      have hK : Go w (dd + 9) 0 0 mtX6_readEither 7 [(0, .ref 372), (1, .int a0), (2, .int (v2 + 1))] [] (go_mk tx q4.2) (go_Z w Q) := hK
      exact go_pick [1, 2, 0] rfl hK
set_option maxRecDepth 20000 in
set_option maxHeartbeats 4000000 in
theorem cmX6_readEither_B (w : go_Wd) (tx : Nat) (Q : Option Value → go_M → Prop) (dd : Nat) (μ : PM) (rec : Nat → PM → Int32 → Option PM) (a0 : Int32) (htx : go_isT tx) (hrec : ∀ (k : Nat) (μ : PM) (x : Int32) (out : PM), rec k μ x = some out → Ct w dd 0 0 (rdMt k) [.ref 372, .int x] (go_mk tx μ) (fun r' M' => r' = none ∧ M' = go_mk tx out)) (out : PM) (h : fX6_readEither_B tx μ rec a0 = some out) (hK : Q none (go_mk tx out)) : Go w (dd + 9) 0 0 mtX6_readEither 0 [(0, .ref 372), (1, .int a0)] [] (go_mk tx μ) (go_Z w Q) := by
  unfold fX6_readEither_B at h
  refine go_aload_n dX6_readEither_0 0 rfl ?_
  refine go_iload_n dX6_readEither_1 1 rfl ?_
  obtain ⟨q1, hq1, h⟩ := go_bind h
  refine pp_callV (as := [.int a0]) (st := []) (rv := none) (μ1 := q1) (st1 := []) dX6_readEither_2 ll_X6_168 sh_372 (by decide) rfl (hrec 5 μ a0 _ hq1) rfl (by omega) (Nat.le_of_ble_eq_true rfl) (go_Z_up w _) rfl rfl ?_
  refine go_iconst (v := 0) dX6_readEither_5 (by decide) ?_
  refine go_istore_n dX6_readEither_6 (by decide) rfl ?_
  show Go w (dd + 9) 0 0 mtX6_readEither 7 [(2, .int 0), (0, .ref 372), (1, .int a0)] [] (go_mk tx q1) (go_Z w Q)
  obtain ⟨ρ5, hρ5, h⟩ := go_bind h
  refine go_pick [1, 2, 0] rfl ?_
  refine go_lp (G := ggX6_readEither_B_7 w tx Q dd rec a0 ) (E := eeX6_readEither_B_7 w tx Q dd rec a0 ) (fun s out h hK => lqX6_readEither_B_7 w tx Q dd rec a0 htx hrec   s.1 s.2 out h hK) go_fuel (0, q1) ρ5 hρ5 ?_
  cases h
  exact hK
def fX8_aimHere (μ : PM) (o : Nat) (a0 : Int32) : Option (PM) :=
  (if a0 < 0 then some (μ) else (if 320 ≤ a0 then some (μ) else go_chk a0 320 <| go_let (pm_wi μ (o + 6) a0.toNatClampNeg (μ.1 o 7)) fun μ1 => some (μ1)))
set_option maxRecDepth 20000 in
set_option maxHeartbeats 4000000 in
theorem cmX8_aimHere (w : go_Wd) (tx : Nat) (Q : Option Value → go_M → Prop) (μ : PM) (o : Nat) (a0 : Int32) (ho : go_isT o) (out : PM) (h : fX8_aimHere μ o a0 = some out) (hK : Q none (go_mk tx out)) : Go w 0 0 0 mtX8_aimHere 0 [(0, .ref o), (1, .int a0)] [] (go_mk tx μ) (go_Z w Q) := by
  unfold fX8_aimHere at h
  refine go_iload_n dX8_aimHere_0 1 rfl ?_
  refine go_if_lt 21 dX8_aimHere_1 (by decide) (fun hc => ?_) (fun hc => ?_)
  · have h := go_ifp hc h
    cases h
    exact go_vret dX8_aimHere_21 rfl hK
  · have h := go_ifn hc h
    refine go_iload_n dX8_aimHere_4 1 rfl ?_
    refine go_sipush (v := 320) dX8_aimHere_5 (by decide) ?_
    refine go_icmp_ge 21 dX8_aimHere_8 (by decide) (fun hc => ?_) (fun hc => ?_)
    · have h := go_ifp hc h
      cases h
      exact go_vret dX8_aimHere_21 rfl hK
    · have h := go_ifn hc h
      refine go_aload_n dX8_aimHere_11 0 rfl ?_
      refine pp_getR dX8_aimHere_12 ff_X8_27 (Or.inr ⟨_, rfl⟩) ho.1 (go_RF_ne ho.2.2.2.2.2.2.2.2.2.2.2.2.2 ho.2.2.2.2.2.2.2.2.2.2.2.2.1) ?_
      refine go_iload_n dX8_aimHere_15 1 rfl ?_
      refine go_aload_n dX8_aimHere_16 0 rfl ?_
      refine pp_getI dX8_aimHere_17 ff_X8_34 (by decide) ho.1 ?_
      obtain ⟨hz2, h⟩ := go_chk_e h
      obtain ⟨μ1, hμ1, h⟩ := go_let_e h
      refine pp_ist dX8_aimHere_20 ho.2.2.2.2.2.2.1 hz2 hμ1 ?_
      cases h
      exact go_vret dX8_aimHere_21 rfl hK
theorem ctX8_aimHere {w : go_Wd} {tx : Nat} {μ : PM} {o : Nat} {a0 : Int32} {μ1 : PM} (ho : go_isT o) (h : fX8_aimHere μ o a0 = some μ1) : Ct w 0 0 0 mtX8_aimHere [.ref o, .int a0] (go_mk tx μ) (fun r' M' => r' = none ∧ M' = go_mk tx μ1) :=
  go_entry rfl (by decide) (Nat.le_of_ble_eq_true rfl) (cmX8_aimHere w tx _ μ o a0 ho _ h ⟨rfl, rfl⟩)
def fX6_readChoice_B (tx : Nat) (μ : PM) (rec : Nat → PM → Int32 → Option PM) (a0 : Int32) : Option (PM) :=
  (rec 4 μ a0).bind fun q1 => (fX6_expect q1 23).bind fun q2 => (fX8_emit q2 tx 23 0).bind fun q3 => (rec 0 q3.2 a0).bind fun q4 => (fX6_expect q4 24).bind fun q5 => (fX8_emit q5 tx 24 0).bind fun q6 => (fX8_aimHere q6.2 tx q3.1).bind fun q7 => (rec 0 q7 a0).bind fun q8 => (fX6_expect q8 25).bind fun q9 => (fX8_aimHere q9 tx q6.1).bind fun q10 => some (q10)
set_option maxRecDepth 20000 in
set_option maxHeartbeats 4000000 in
theorem cmX6_readChoice_B (w : go_Wd) (tx : Nat) (Q : Option Value → go_M → Prop) (dd : Nat) (μ : PM) (rec : Nat → PM → Int32 → Option PM) (a0 : Int32) (htx : go_isT tx) (hrec : ∀ (k : Nat) (μ : PM) (x : Int32) (out : PM), rec k μ x = some out → Ct w dd 0 0 (rdMt k) [.ref 372, .int x] (go_mk tx μ) (fun r' M' => r' = none ∧ M' = go_mk tx out)) (out : PM) (h : fX6_readChoice_B tx μ rec a0 = some out) (hK : Q none (go_mk tx out)) : Go w (dd + 9) 0 0 mtX6_readChoice 0 [(0, .ref 372), (1, .int a0)] [] (go_mk tx μ) (go_Z w Q) := by
  unfold fX6_readChoice_B at h
  refine go_aload_n dX6_readChoice_0 0 rfl ?_
  refine go_iload_n dX6_readChoice_1 1 rfl ?_
  obtain ⟨q1, hq1, h⟩ := go_bind h
  refine pp_callV (as := [.int a0]) (st := []) (rv := none) (μ1 := q1) (st1 := []) dX6_readChoice_2 ll_X6_162 sh_372 (by decide) rfl (hrec 4 μ a0 _ hq1) rfl (by omega) (Nat.le_of_ble_eq_true rfl) (go_Z_up w _) rfl rfl ?_
  refine go_aload_n dX6_readChoice_5 0 rfl ?_
  refine go_bipush (v := 23) dX6_readChoice_6 (by decide) ?_
  obtain ⟨q2, hq2, h⟩ := go_bind h
  refine pp_callV (as := [.int 23]) (st := []) (rv := none) (μ1 := q2) (st1 := []) dX6_readChoice_8 ll_X6_128 sh_372 (by decide) rfl (ctX6_expect  hq2) rfl (by omega) (Nat.le_of_ble_eq_true rfl) (go_Z_up w _) rfl rfl ?_
  refine go_aload_n dX6_readChoice_11 0 rfl ?_
  refine pp_getR dX6_readChoice_12 ff_X6_27 (Or.inl ⟨_, rfl⟩) sh_372 go_RF_tx ?_
  refine go_bipush (v := 23) dX6_readChoice_15 (by decide) ?_
  refine go_iconst (v := 0) dX6_readChoice_17 (by decide) ?_
  obtain ⟨q3, hq3, h⟩ := go_bind h
  refine pp_callV (as := [.int 23, .int 0]) (st := []) (rv := (some (.int q3.1))) (μ1 := q3.2) (st1 := [.int q3.1]) dX6_readChoice_18 ll_X6_122 htx.1 (by decide) rfl (ctX8_emit htx hq3) rfl (by omega) (Nat.le_of_ble_eq_true rfl) (go_Z_up w _) rfl rfl ?_
  refine go_istore_n dX6_readChoice_21 (by decide) rfl ?_
  show Go w (dd + 9) 0 0 mtX6_readChoice 22 [(2, .int q3.1), (0, .ref 372), (1, .int a0)] [] (go_mk tx q3.2) (go_Z w Q)
  refine go_aload_n dX6_readChoice_22 1 rfl ?_
  refine go_iload_n dX6_readChoice_23 2 rfl ?_
  obtain ⟨q4, hq4, h⟩ := go_bind h
  refine pp_callV (as := [.int a0]) (st := []) (rv := none) (μ1 := q4) (st1 := []) dX6_readChoice_24 ll_X6_119 sh_372 (by decide) rfl (hrec 0 q3.2 a0 _ hq4) rfl (by omega) (Nat.le_of_ble_eq_true rfl) (go_Z_up w _) rfl rfl ?_
  refine go_aload_n dX6_readChoice_27 1 rfl ?_
  refine go_bipush (v := 24) dX6_readChoice_28 (by decide) ?_
  obtain ⟨q5, hq5, h⟩ := go_bind h
  refine pp_callV (as := [.int 24]) (st := []) (rv := none) (μ1 := q5) (st1 := []) dX6_readChoice_30 ll_X6_128 sh_372 (by decide) rfl (ctX6_expect  hq5) rfl (by omega) (Nat.le_of_ble_eq_true rfl) (go_Z_up w _) rfl rfl ?_
  refine go_aload_n dX6_readChoice_33 1 rfl ?_
  refine pp_getR dX6_readChoice_34 ff_X6_27 (Or.inl ⟨_, rfl⟩) sh_372 go_RF_tx ?_
  refine go_bipush (v := 24) dX6_readChoice_37 (by decide) ?_
  refine go_iconst (v := 0) dX6_readChoice_39 (by decide) ?_
  obtain ⟨q6, hq6, h⟩ := go_bind h
  refine pp_callV (as := [.int 24, .int 0]) (st := []) (rv := (some (.int q6.1))) (μ1 := q6.2) (st1 := [.int q6.1]) dX6_readChoice_40 ll_X6_122 htx.1 (by decide) rfl (ctX8_emit htx hq6) rfl (by omega) (Nat.le_of_ble_eq_true rfl) (go_Z_up w _) rfl rfl ?_
  refine go_istore_n dX6_readChoice_43 (by decide) rfl ?_
  show Go w (dd + 9) 0 0 mtX6_readChoice 44 [(3, .int q6.1), (2, .int q3.1), (0, .ref 372), (1, .int a0)] [] (go_mk tx q6.2) (go_Z w Q)
  refine go_aload_n dX6_readChoice_44 2 rfl ?_
  refine pp_getR dX6_readChoice_45 ff_X6_27 (Or.inl ⟨_, rfl⟩) sh_372 go_RF_tx ?_
  refine go_iload_n dX6_readChoice_48 1 rfl ?_
  obtain ⟨q7, hq7, h⟩ := go_bind h
  refine pp_callV (as := [.int q3.1]) (st := []) (rv := none) (μ1 := q7) (st1 := []) dX6_readChoice_49 ll_X6_165 htx.1 (by decide) rfl (ctX8_aimHere htx hq7) rfl (by omega) (Nat.le_of_ble_eq_true rfl) (go_Z_up w _) rfl rfl ?_
  refine go_aload_n dX6_readChoice_52 2 rfl ?_
  refine go_iload_n dX6_readChoice_53 3 rfl ?_
  obtain ⟨q8, hq8, h⟩ := go_bind h
  refine pp_callV (as := [.int a0]) (st := []) (rv := none) (μ1 := q8) (st1 := []) dX6_readChoice_54 ll_X6_119 sh_372 (by decide) rfl (hrec 0 q7 a0 _ hq8) rfl (by omega) (Nat.le_of_ble_eq_true rfl) (go_Z_up w _) rfl rfl ?_
  refine go_aload_n dX6_readChoice_57 2 rfl ?_
  refine go_bipush (v := 25) dX6_readChoice_58 (by decide) ?_
  obtain ⟨q9, hq9, h⟩ := go_bind h
  refine pp_callV (as := [.int 25]) (st := []) (rv := none) (μ1 := q9) (st1 := []) dX6_readChoice_60 ll_X6_128 sh_372 (by decide) rfl (ctX6_expect  hq9) rfl (by omega) (Nat.le_of_ble_eq_true rfl) (go_Z_up w _) rfl rfl ?_
  refine go_aload_n dX6_readChoice_63 2 rfl ?_
  refine pp_getR dX6_readChoice_64 ff_X6_27 (Or.inl ⟨_, rfl⟩) sh_372 go_RF_tx ?_
  refine go_iload_n dX6_readChoice_67 0 rfl ?_
  obtain ⟨q10, hq10, h⟩ := go_bind h
  refine pp_callV (as := [.int q6.1]) (st := []) (rv := none) (μ1 := q10) (st1 := []) dX6_readChoice_68 ll_X6_165 htx.1 (by decide) rfl (ctX8_aimHere htx hq10) rfl (by omega) (Nat.le_of_ble_eq_true rfl) (go_Z_up w _) rfl rfl ?_
  cases h
  exact go_vret dX6_readChoice_71 rfl hK
def jjX6_readOne_B_23 (tx : Nat) (μ : PM) (rec : Nat → PM → Int32 → Option PM) (a0 : Int32)   : Option (PM) :=
  (if (μ.1 372 6) = 22 then (fX6_opens μ a0).bind fun q2 => (if q2.1 = 0 then some (q2.2) else (rec 3 q2.2 (a0 + 1)).bind fun q3 => some (q3)) else (if (μ.1 372 6) = 29 then (fX6_opens μ a0).bind fun q5 => (if q5.1 = 0 then some (q5.2) else (rec 2 q5.2 (a0 + 1)).bind fun q6 => (fX6_expect q6 21).bind fun q7 => (rec 2 q7 (a0 + 1)).bind fun q8 => (fX8_emit q8 tx 29 0).bind fun q9 => some (q9.2)) else (if (μ.1 372 6) = 30 then (fX6_opens μ a0).bind fun q11 => (if q11.1 = 0 then some (q11.2) else (rec 2 q11.2 (a0 + 1)).bind fun q12 => (fX8_emit q12 tx 30 0).bind fun q13 => some (q13.2)) else (if (μ.1 372 6) = 32 then (fX6_takeWithin μ 0 9999).bind fun q15 => (fX8_emit q15.2 tx 32 q15.1).bind fun q16 => some (q16.2) else (if (μ.1 372 6) = 45 then (fX6_opens μ a0).bind fun q18 => (if q18.1 = 0 then some (q18.2) else (rec 2 q18.2 (a0 + 1)).bind fun q19 => (fX8_emit q19 tx 55 0).bind fun q20 => some (q20.2)) else (if (μ.1 372 6) = 48 then (fX6_opens μ a0).bind fun q22 => (if q22.1 = 0 then some (q22.2) else (rec 0 q22.2 (a0 + 1)).bind fun q23 => (fX6_expect q23 49).bind fun q24 => some (q24)) else (fX6_refuse μ 1).bind fun q25 => some (q25)))))))
def fX6_readOne_B (tx : Nat) (μ : PM) (rec : Nat → PM → Int32 → Option PM) (a0 : Int32) : Option (PM) :=
  (if (μ.1 372 6) < 10 then jjX6_readOne_B_23 tx μ rec a0 else (if 18 < (μ.1 372 6) then jjX6_readOne_B_23 tx μ rec a0 else (fX6_readKnown tx μ).bind fun q26 => some (q26)))
set_option maxRecDepth 20000 in
set_option maxHeartbeats 4000000 in
theorem jqX6_readOne_B_23 (w : go_Wd) (tx : Nat) (Q : Option Value → go_M → Prop) (dd : Nat) (μ : PM) (rec : Nat → PM → Int32 → Option PM) (a0 : Int32) (htx : go_isT tx) (hrec : ∀ (k : Nat) (μ : PM) (x : Int32) (out : PM), rec k μ x = some out → Ct w dd 0 0 (rdMt k) [.ref 372, .int x] (go_mk tx μ) (fun r' M' => r' = none ∧ M' = go_mk tx out))     (out : PM) (h : jjX6_readOne_B_23 tx μ rec a0   = some out) (hK : Q none (go_mk tx out)) : Go w (dd + 9) 0 0 mtX6_readOne 23 [(0, .ref 372), (1, .int a0)] [] (go_mk tx μ) (go_Z w Q) := by
  unfold jjX6_readOne_B_23 at h
  refine go_aload_n dX6_readOne_23 0 rfl ?_
  refine pp_getI dX6_readOne_24 ff_X6_54 (by decide) sh_372 ?_
  by_cases hc1 : (μ.1 372 6) = 22
  · have h := go_ifp hc1 h
    refine go_lookup (off := 202) 229 dX6_readOne_27 (by decide) (by rw [hc1]; decide) (by decide) ?_
    refine go_aload_n dX6_readOne_229 0 rfl ?_
    refine go_iload_n dX6_readOne_230 1 rfl ?_
    obtain ⟨q2, hq2, h⟩ := go_bind h
    refine pp_callV (as := [.int a0]) (st := []) (rv := (some (.int q2.1))) (μ1 := q2.2) (st1 := [.int q2.1]) dX6_readOne_231 ll_X6_156 sh_372 (by decide) rfl (ctX6_opens  hq2) rfl (by omega) (Nat.le_of_ble_eq_true rfl) (go_Z_up w _) rfl rfl ?_
    refine go_if_eq 252 dX6_readOne_234 (by decide) (fun hc => ?_) (fun hc => ?_)
    · have h := go_ifp hc h
      cases h
      exact go_vret dX6_readOne_252 rfl hK
    · have h := go_ifn hc h
      refine go_aload_n dX6_readOne_237 0 rfl ?_
      refine go_iload_n dX6_readOne_238 1 rfl ?_
      refine go_iconst (v := 1) dX6_readOne_239 (by decide) ?_
      refine go_iadd dX6_readOne_240 ?_
      obtain ⟨q3, hq3, h⟩ := go_bind h
      refine pp_callV (as := [.int (a0 + 1)]) (st := []) (rv := none) (μ1 := q3) (st1 := []) dX6_readOne_241 ll_X6_159 sh_372 (by decide) rfl (hrec 3 q2.2 (a0 + 1) _ hq3) rfl (by omega) (Nat.le_of_ble_eq_true rfl) (go_Z_up w _) rfl rfl ?_
      refine go_goto 252 dX6_readOne_244 (by decide) ?_
      cases h
      exact go_vret dX6_readOne_252 rfl hK
  · have h := go_ifn hc1 h
    by_cases hc4 : (μ.1 372 6) = 29
    · have h := go_ifp hc4 h
      refine go_lookup (off := 131) 158 dX6_readOne_27 (by decide) (by rw [hc4]; decide) (by decide) ?_
      refine go_aload_n dX6_readOne_158 0 rfl ?_
      refine go_iload_n dX6_readOne_159 1 rfl ?_
      obtain ⟨q5, hq5, h⟩ := go_bind h
      refine pp_callV (as := [.int a0]) (st := []) (rv := (some (.int q5.1))) (μ1 := q5.2) (st1 := [.int q5.1]) dX6_readOne_160 ll_X6_156 sh_372 (by decide) rfl (ctX6_opens  hq5) rfl (by omega) (Nat.le_of_ble_eq_true rfl) (go_Z_up w _) rfl rfl ?_
      refine go_if_eq 252 dX6_readOne_163 (by decide) (fun hc => ?_) (fun hc => ?_)
      · have h := go_ifp hc h
        cases h
        exact go_vret dX6_readOne_252 rfl hK
      · have h := go_ifn hc h
        refine go_aload_n dX6_readOne_166 0 rfl ?_
        refine go_iload_n dX6_readOne_167 1 rfl ?_
        refine go_iconst (v := 1) dX6_readOne_168 (by decide) ?_
        refine go_iadd dX6_readOne_169 ?_
        obtain ⟨q6, hq6, h⟩ := go_bind h
        refine pp_callV (as := [.int (a0 + 1)]) (st := []) (rv := none) (μ1 := q6) (st1 := []) dX6_readOne_170 ll_X6_150 sh_372 (by decide) rfl (hrec 2 q5.2 (a0 + 1) _ hq6) rfl (by omega) (Nat.le_of_ble_eq_true rfl) (go_Z_up w _) rfl rfl ?_
        refine go_aload_n dX6_readOne_173 0 rfl ?_
        refine go_bipush (v := 21) dX6_readOne_174 (by decide) ?_
        obtain ⟨q7, hq7, h⟩ := go_bind h
        refine pp_callV (as := [.int 21]) (st := []) (rv := none) (μ1 := q7) (st1 := []) dX6_readOne_176 ll_X6_128 sh_372 (by decide) rfl (ctX6_expect  hq7) rfl (by omega) (Nat.le_of_ble_eq_true rfl) (go_Z_up w _) rfl rfl ?_
        refine go_aload_n dX6_readOne_179 0 rfl ?_
        refine go_iload_n dX6_readOne_180 1 rfl ?_
        refine go_iconst (v := 1) dX6_readOne_181 (by decide) ?_
        refine go_iadd dX6_readOne_182 ?_
        obtain ⟨q8, hq8, h⟩ := go_bind h
        refine pp_callV (as := [.int (a0 + 1)]) (st := []) (rv := none) (μ1 := q8) (st1 := []) dX6_readOne_183 ll_X6_150 sh_372 (by decide) rfl (hrec 2 q7 (a0 + 1) _ hq8) rfl (by omega) (Nat.le_of_ble_eq_true rfl) (go_Z_up w _) rfl rfl ?_
        refine go_aload_n dX6_readOne_186 0 rfl ?_
        refine pp_getR dX6_readOne_187 ff_X6_27 (Or.inl ⟨_, rfl⟩) sh_372 go_RF_tx ?_
        refine go_bipush (v := 29) dX6_readOne_190 (by decide) ?_
        refine go_iconst (v := 0) dX6_readOne_192 (by decide) ?_
        obtain ⟨q9, hq9, h⟩ := go_bind h
        refine pp_callV (as := [.int 29, .int 0]) (st := []) (rv := (some (.int q9.1))) (μ1 := q9.2) (st1 := [.int q9.1]) dX6_readOne_193 ll_X6_122 htx.1 (by decide) rfl (ctX8_emit htx hq9) rfl (by omega) (Nat.le_of_ble_eq_true rfl) (go_Z_up w _) rfl rfl ?_
        refine go_pop dX6_readOne_196 rfl ?_
        refine go_goto 252 dX6_readOne_197 (by decide) ?_
        cases h
        exact go_vret dX6_readOne_252 rfl hK
    · have h := go_ifn hc4 h
      by_cases hc10 : (μ.1 372 6) = 30
      · have h := go_ifp hc10 h
        refine go_lookup (off := 173) 200 dX6_readOne_27 (by decide) (by rw [hc10]; decide) (by decide) ?_
        refine go_aload_n dX6_readOne_200 0 rfl ?_
        refine go_iload_n dX6_readOne_201 1 rfl ?_
        obtain ⟨q11, hq11, h⟩ := go_bind h
        refine pp_callV (as := [.int a0]) (st := []) (rv := (some (.int q11.1))) (μ1 := q11.2) (st1 := [.int q11.1]) dX6_readOne_202 ll_X6_156 sh_372 (by decide) rfl (ctX6_opens  hq11) rfl (by omega) (Nat.le_of_ble_eq_true rfl) (go_Z_up w _) rfl rfl ?_
        refine go_if_eq 252 dX6_readOne_205 (by decide) (fun hc => ?_) (fun hc => ?_)
        · have h := go_ifp hc h
          cases h
          exact go_vret dX6_readOne_252 rfl hK
        · have h := go_ifn hc h
          refine go_aload_n dX6_readOne_208 0 rfl ?_
          refine go_iload_n dX6_readOne_209 1 rfl ?_
          refine go_iconst (v := 1) dX6_readOne_210 (by decide) ?_
          refine go_iadd dX6_readOne_211 ?_
          obtain ⟨q12, hq12, h⟩ := go_bind h
          refine pp_callV (as := [.int (a0 + 1)]) (st := []) (rv := none) (μ1 := q12) (st1 := []) dX6_readOne_212 ll_X6_150 sh_372 (by decide) rfl (hrec 2 q11.2 (a0 + 1) _ hq12) rfl (by omega) (Nat.le_of_ble_eq_true rfl) (go_Z_up w _) rfl rfl ?_
          refine go_aload_n dX6_readOne_215 0 rfl ?_
          refine pp_getR dX6_readOne_216 ff_X6_27 (Or.inl ⟨_, rfl⟩) sh_372 go_RF_tx ?_
          refine go_bipush (v := 30) dX6_readOne_219 (by decide) ?_
          refine go_iconst (v := 0) dX6_readOne_221 (by decide) ?_
          obtain ⟨q13, hq13, h⟩ := go_bind h
          refine pp_callV (as := [.int 30, .int 0]) (st := []) (rv := (some (.int q13.1))) (μ1 := q13.2) (st1 := [.int q13.1]) dX6_readOne_222 ll_X6_122 htx.1 (by decide) rfl (ctX8_emit htx hq13) rfl (by omega) (Nat.le_of_ble_eq_true rfl) (go_Z_up w _) rfl rfl ?_
          refine go_pop dX6_readOne_225 rfl ?_
          refine go_goto 252 dX6_readOne_226 (by decide) ?_
          cases h
          exact go_vret dX6_readOne_252 rfl hK
      · have h := go_ifn hc10 h
        by_cases hc14 : (μ.1 372 6) = 32
        · have h := go_ifp hc14 h
          refine go_lookup (off := 57) 84 dX6_readOne_27 (by decide) (by rw [hc14]; decide) (by decide) ?_
          refine go_aload_n dX6_readOne_84 0 rfl ?_
          refine pp_getR dX6_readOne_85 ff_X6_27 (Or.inl ⟨_, rfl⟩) sh_372 go_RF_tx ?_
          refine go_bipush (v := 32) dX6_readOne_88 (by decide) ?_
          refine go_aload_n dX6_readOne_90 0 rfl ?_
          refine go_iconst (v := 0) dX6_readOne_91 (by decide) ?_
          refine go_sipush (v := 9999) dX6_readOne_92 (by decide) ?_
          obtain ⟨q15, hq15, h⟩ := go_bind h
          refine pp_callV (as := [.int 0, .int 9999]) (st := [.int 32, .ref tx]) (rv := (some (.int q15.1))) (μ1 := q15.2) (st1 := [.int q15.1, .int 32, .ref tx]) dX6_readOne_95 ll_X6_131 sh_372 (by decide) rfl (ctX6_takeWithin  hq15) rfl (by omega) (Nat.le_of_ble_eq_true rfl) (go_Z_up w _) rfl rfl ?_
          obtain ⟨q16, hq16, h⟩ := go_bind h
          refine pp_callV (as := [.int 32, .int q15.1]) (st := []) (rv := (some (.int q16.1))) (μ1 := q16.2) (st1 := [.int q16.1]) dX6_readOne_98 ll_X6_122 htx.1 (by decide) rfl (ctX8_emit htx hq16) rfl (by omega) (Nat.le_of_ble_eq_true rfl) (go_Z_up w _) rfl rfl ?_
          refine go_pop dX6_readOne_101 rfl ?_
          refine go_goto 252 dX6_readOne_102 (by decide) ?_
          cases h
          exact go_vret dX6_readOne_252 rfl hK
        · have h := go_ifn hc14 h
          by_cases hc17 : (μ.1 372 6) = 45
          · have h := go_ifp hc17 h
            refine go_lookup (off := 102) 129 dX6_readOne_27 (by decide) (by rw [hc17]; decide) (by decide) ?_
            refine go_aload_n dX6_readOne_129 0 rfl ?_
            refine go_iload_n dX6_readOne_130 1 rfl ?_
            obtain ⟨q18, hq18, h⟩ := go_bind h
            refine pp_callV (as := [.int a0]) (st := []) (rv := (some (.int q18.1))) (μ1 := q18.2) (st1 := [.int q18.1]) dX6_readOne_131 ll_X6_156 sh_372 (by decide) rfl (ctX6_opens  hq18) rfl (by omega) (Nat.le_of_ble_eq_true rfl) (go_Z_up w _) rfl rfl ?_
            refine go_if_eq 252 dX6_readOne_134 (by decide) (fun hc => ?_) (fun hc => ?_)
            · have h := go_ifp hc h
              cases h
              exact go_vret dX6_readOne_252 rfl hK
            · have h := go_ifn hc h
              refine go_aload_n dX6_readOne_137 0 rfl ?_
              refine go_iload_n dX6_readOne_138 1 rfl ?_
              refine go_iconst (v := 1) dX6_readOne_139 (by decide) ?_
              refine go_iadd dX6_readOne_140 ?_
              obtain ⟨q19, hq19, h⟩ := go_bind h
              refine pp_callV (as := [.int (a0 + 1)]) (st := []) (rv := none) (μ1 := q19) (st1 := []) dX6_readOne_141 ll_X6_150 sh_372 (by decide) rfl (hrec 2 q18.2 (a0 + 1) _ hq19) rfl (by omega) (Nat.le_of_ble_eq_true rfl) (go_Z_up w _) rfl rfl ?_
              refine go_aload_n dX6_readOne_144 0 rfl ?_
              refine pp_getR dX6_readOne_145 ff_X6_27 (Or.inl ⟨_, rfl⟩) sh_372 go_RF_tx ?_
              refine go_bipush (v := 55) dX6_readOne_148 (by decide) ?_
              refine go_iconst (v := 0) dX6_readOne_150 (by decide) ?_
              obtain ⟨q20, hq20, h⟩ := go_bind h
              refine pp_callV (as := [.int 55, .int 0]) (st := []) (rv := (some (.int q20.1))) (μ1 := q20.2) (st1 := [.int q20.1]) dX6_readOne_151 ll_X6_122 htx.1 (by decide) rfl (ctX8_emit htx hq20) rfl (by omega) (Nat.le_of_ble_eq_true rfl) (go_Z_up w _) rfl rfl ?_
              refine go_pop dX6_readOne_154 rfl ?_
              refine go_goto 252 dX6_readOne_155 (by decide) ?_
              cases h
              exact go_vret dX6_readOne_252 rfl hK
          · have h := go_ifn hc17 h
            by_cases hc21 : (μ.1 372 6) = 48
            · have h := go_ifp hc21 h
              refine go_lookup (off := 78) 105 dX6_readOne_27 (by decide) (by rw [hc21]; decide) (by decide) ?_
              refine go_aload_n dX6_readOne_105 0 rfl ?_
              refine go_iload_n dX6_readOne_106 1 rfl ?_
              obtain ⟨q22, hq22, h⟩ := go_bind h
              refine pp_callV (as := [.int a0]) (st := []) (rv := (some (.int q22.1))) (μ1 := q22.2) (st1 := [.int q22.1]) dX6_readOne_107 ll_X6_156 sh_372 (by decide) rfl (ctX6_opens  hq22) rfl (by omega) (Nat.le_of_ble_eq_true rfl) (go_Z_up w _) rfl rfl ?_
              refine go_if_eq 252 dX6_readOne_110 (by decide) (fun hc => ?_) (fun hc => ?_)
              · have h := go_ifp hc h
                cases h
                exact go_vret dX6_readOne_252 rfl hK
              · have h := go_ifn hc h
                refine go_aload_n dX6_readOne_113 0 rfl ?_
                refine go_iload_n dX6_readOne_114 1 rfl ?_
                refine go_iconst (v := 1) dX6_readOne_115 (by decide) ?_
                refine go_iadd dX6_readOne_116 ?_
                obtain ⟨q23, hq23, h⟩ := go_bind h
                refine pp_callV (as := [.int (a0 + 1)]) (st := []) (rv := none) (μ1 := q23) (st1 := []) dX6_readOne_117 ll_X6_119 sh_372 (by decide) rfl (hrec 0 q22.2 (a0 + 1) _ hq23) rfl (by omega) (Nat.le_of_ble_eq_true rfl) (go_Z_up w _) rfl rfl ?_
                refine go_aload_n dX6_readOne_120 0 rfl ?_
                refine go_bipush (v := 49) dX6_readOne_121 (by decide) ?_
                obtain ⟨q24, hq24, h⟩ := go_bind h
                refine pp_callV (as := [.int 49]) (st := []) (rv := none) (μ1 := q24) (st1 := []) dX6_readOne_123 ll_X6_128 sh_372 (by decide) rfl (ctX6_expect  hq24) rfl (by omega) (Nat.le_of_ble_eq_true rfl) (go_Z_up w _) rfl rfl ?_
                refine go_goto 252 dX6_readOne_126 (by decide) ?_
                cases h
                exact go_vret dX6_readOne_252 rfl hK
            · have h := go_ifn hc21 h
              refine go_lookup (off := 220) 247 dX6_readOne_27 (by decide) (by have g0 := go_ne_i (n := 22) hc1 (by decide); have g1 := go_ne_i (n := 29) hc4 (by decide); have g2 := go_ne_i (n := 30) hc10 (by decide); have g3 := go_ne_i (n := 32) hc14 (by decide); have g4 := go_ne_i (n := 45) hc17 (by decide); have g5 := go_ne_i (n := 48) hc21 (by decide); simp [Op.lookupswitch.offset, Ne.symm g0, Ne.symm g1, Ne.symm g2, Ne.symm g3, Ne.symm g4, Ne.symm g5]) (by decide) ?_
              refine go_aload_n dX6_readOne_247 0 rfl ?_
              refine go_iconst (v := 1) dX6_readOne_248 (by decide) ?_
              obtain ⟨q25, hq25, h⟩ := go_bind h
              refine pp_callV (as := [.int 1]) (st := []) (rv := none) (μ1 := q25) (st1 := []) dX6_readOne_249 ll_X6_99 sh_372 (by decide) rfl (ctX6_refuse  hq25) rfl (by omega) (Nat.le_of_ble_eq_true rfl) (go_Z_up w _) rfl rfl ?_
              cases h
              exact go_vret dX6_readOne_252 rfl hK
set_option maxRecDepth 20000 in
set_option maxHeartbeats 4000000 in
theorem cmX6_readOne_B (w : go_Wd) (tx : Nat) (Q : Option Value → go_M → Prop) (dd : Nat) (μ : PM) (rec : Nat → PM → Int32 → Option PM) (a0 : Int32) (htx : go_isT tx) (hrec : ∀ (k : Nat) (μ : PM) (x : Int32) (out : PM), rec k μ x = some out → Ct w dd 0 0 (rdMt k) [.ref 372, .int x] (go_mk tx μ) (fun r' M' => r' = none ∧ M' = go_mk tx out)) (out : PM) (h : fX6_readOne_B tx μ rec a0 = some out) (hK : Q none (go_mk tx out)) : Go w (dd + 9) 0 0 mtX6_readOne 0 [(0, .ref 372), (1, .int a0)] [] (go_mk tx μ) (go_Z w Q) := by
  unfold fX6_readOne_B at h
  refine go_aload_n dX6_readOne_0 0 rfl ?_
  refine pp_getI dX6_readOne_1 ff_X6_54 (by decide) sh_372 ?_
  refine go_bipush (v := 10) dX6_readOne_4 (by decide) ?_
  refine go_icmp_lt 23 dX6_readOne_6 (by decide) (fun hc => ?_) (fun hc => ?_)
  · have h := go_ifp hc h
    refine go_pick [0, 1] rfl ?_
    exact jqX6_readOne_B_23 w tx Q dd μ rec a0 htx hrec     _ h hK
  · have h := go_ifn hc h
    refine go_aload_n dX6_readOne_9 0 rfl ?_
    refine pp_getI dX6_readOne_10 ff_X6_54 (by decide) sh_372 ?_
    refine go_bipush (v := 18) dX6_readOne_13 (by decide) ?_
    refine go_icmp_gt 23 dX6_readOne_15 (by decide) (fun hc => ?_) (fun hc => ?_)
    · have h := go_ifp hc h
      refine go_pick [0, 1] rfl ?_
      exact jqX6_readOne_B_23 w tx Q dd μ rec a0 htx hrec     _ h hK
    · have h := go_ifn hc h
      refine go_aload_n dX6_readOne_18 0 rfl ?_
      obtain ⟨q26, hq26, h⟩ := go_bind h
      refine pp_callV (as := []) (st := []) (rv := none) (μ1 := q26) (st1 := []) dX6_readOne_19 ll_X6_153 sh_372 (by decide) rfl (ctX6_readKnown htx hq26) rfl (by omega) (Nat.le_of_ble_eq_true rfl) (go_Z_up w _) rfl rfl ?_
      cases h
      exact go_vret dX6_readOne_22 rfl hK