def jjX6_readProduct_B_32_7 (tx : Nat) (μ : PM) (rec : Nat → PM → Int32 → Option PM) (a0 : Int32) (v2 : Int32)  : Option ((Int32 × PM) ⊕ (PM)) :=
  (fX6_advance μ).bind fun q2 => (rec 2 q2 a0).bind fun q3 => (fX8_emit q3 tx (μ.1 372 6) 0).bind fun q4 => some (.inl ((v2 + 1), q4.2))
def lbX6_readProduct_B_7 (tx : Nat) (rec : Nat → PM → Int32 → Option PM) (a0 : Int32)  (v2 : Int32) (μ : PM) : Option ((Int32 × PM) ⊕ (PM)) :=
  (if 300 ≤ v2 then some (.inr (μ)) else (if (μ.1 372 6) = 46 then jjX6_readProduct_B_32_7 tx μ rec a0 v2 else (if (μ.1 372 6) = 47 then jjX6_readProduct_B_32_7 tx μ rec a0 v2 else some (.inr (μ)))))
def fX6_readProduct_B (tx : Nat) (μ : PM) (rec : Nat → PM → Int32 → Option PM) (a0 : Int32) : Option (PM) :=
  (rec 2 μ a0).bind fun q1 => ((lp (fun s => lbX6_readProduct_B_7 tx rec a0 s.1 s.2) go_fuel (0, q1)).bind fun ρ5 => some ρ5)
def ggX6_readProduct_B_7 (w : go_Wd) (tx : Nat) (Q : Option Value → go_M → Prop) (dd : Nat) (rec : Nat → PM → Int32 → Option PM) (a0 : Int32)  (s : Int32 × PM) : Prop := Go w (dd + 9) 0 0 mtX6_readProduct 7 [(0, .ref 372), (1, .int a0), (2, .int s.1)] [] (go_mk tx s.2) (go_Z w Q)
def eeX6_readProduct_B_7 (w : go_Wd) (tx : Nat) (Q : Option Value → go_M → Prop) (dd : Nat) (rec : Nat → PM → Int32 → Option PM) (a0 : Int32)  (y : PM) : Prop := Q none (go_mk tx y)
set_option maxRecDepth 20000 in
set_option maxHeartbeats 4000000 in
theorem jqX6_readProduct_B_32_7 (w : go_Wd) (tx : Nat) (Q : Option Value → go_M → Prop) (dd : Nat) (μ : PM) (rec : Nat → PM → Int32 → Option PM) (a0 : Int32) (htx : go_isT tx) (hrec : ∀ (k : Nat) (μ : PM) (x : Int32) (out : PM), rec k μ x = some out → Ct w dd 0 0 (rdMt k) [.ref 372, .int x] (go_mk tx μ) (fun r' M' => r' = none ∧ M' = go_mk tx out)) (v2 : Int32)    (out : (Int32 × PM) ⊕ (PM)) (h : jjX6_readProduct_B_32_7 tx μ rec a0 v2  = some out) (hK : go_out (ggX6_readProduct_B_7 w tx Q dd rec a0 ) (eeX6_readProduct_B_7 w tx Q dd rec a0 ) out) : Go w (dd + 9) 0 0 mtX6_readProduct 32 [(0, .ref 372), (1, .int a0), (2, .int v2)] [] (go_mk tx μ) (go_Z w Q) := by
  unfold jjX6_readProduct_B_32_7 at h
  refine go_aload_n dX6_readProduct_32 0 rfl ?_
  refine pp_getI dX6_readProduct_33 ff_X6_54 (by decide) sh_372 ?_
  refine go_istore_n dX6_readProduct_36 (by decide) rfl ?_
  show Go w (dd + 9) 0 0 mtX6_readProduct 37 [(3, .int (μ.1 372 6)), (0, .ref 372), (1, .int a0), (2, .int v2)] [] (go_mk tx μ) (go_Z w Q)
  refine go_aload_n dX6_readProduct_37 1 rfl ?_
  obtain ⟨q2, hq2, h⟩ := go_bind h
  refine pp_callV (as := []) (st := []) (rv := none) (μ1 := q2) (st1 := []) dX6_readProduct_38 ll_X6_108 sh_372 (by decide) rfl (ctX6_advance  hq2) rfl (by omega) (Nat.le_of_ble_eq_true rfl) (go_Z_up w _) rfl rfl ?_
  refine go_aload_n dX6_readProduct_41 1 rfl ?_
  refine go_iload_n dX6_readProduct_42 2 rfl ?_
  obtain ⟨q3, hq3, h⟩ := go_bind h
  refine pp_callV (as := [.int a0]) (st := []) (rv := none) (μ1 := q3) (st1 := []) dX6_readProduct_43 ll_X6_150 sh_372 (by decide) rfl (hrec 2 q2 a0 _ hq3) rfl (by omega) (Nat.le_of_ble_eq_true rfl) (go_Z_up w _) rfl rfl ?_
  refine go_aload_n dX6_readProduct_46 1 rfl ?_
  refine pp_getR dX6_readProduct_47 ff_X6_27 (Or.inl ⟨_, rfl⟩) sh_372 go_RF_tx ?_
  refine go_iload_n dX6_readProduct_50 0 rfl ?_
  refine go_iconst (v := 0) dX6_readProduct_51 (by decide) ?_
  obtain ⟨q4, hq4, h⟩ := go_bind h
  refine pp_callV (as := [.int (μ.1 372 6), .int 0]) (st := []) (rv := (some (.int q4.1))) (μ1 := q4.2) (st1 := [.int q4.1]) dX6_readProduct_52 ll_X6_122 htx.1 (by decide) rfl (ctX8_emit htx hq4) rfl (by omega) (Nat.le_of_ble_eq_true rfl) (go_Z_up w _) rfl rfl ?_
  refine go_pop dX6_readProduct_55 rfl ?_
  refine go_iinc (v := (v2 + 1)) dX6_readProduct_56 3 rfl rfl (by decide) rfl ?_
  show Go w (dd + 9) 0 0 mtX6_readProduct 59 [(2, .int (v2 + 1)), (3, .int (μ.1 372 6)), (0, .ref 372), (1, .int a0)] [] (go_mk tx q4.2) (go_Z w Q)
  refine go_goto 7 dX6_readProduct_59 (by decide) ?_
  cases h
  have hK : Go w (dd + 9) 0 0 mtX6_readProduct 7 [(0, .ref 372), (1, .int a0), (2, .int (v2 + 1))] [] (go_mk tx q4.2) (go_Z w Q) := hK
  exact go_pick [2, 3, 0] rfl hK
set_option maxRecDepth 20000 in
set_option maxHeartbeats 4000000 in
theorem lqX6_readProduct_B_7 (w : go_Wd) (tx : Nat) (Q : Option Value → go_M → Prop) (dd : Nat) (rec : Nat → PM → Int32 → Option PM) (a0 : Int32) (htx : go_isT tx) (hrec : ∀ (k : Nat) (μ : PM) (x : Int32) (out : PM), rec k μ x = some out → Ct w dd 0 0 (rdMt k) [.ref 372, .int x] (go_mk tx μ) (fun r' M' => r' = none ∧ M' = go_mk tx out))   (v2 : Int32) (μ : PM) (out : (Int32 × PM) ⊕ (PM)) (h : lbX6_readProduct_B_7 tx rec a0  v2 μ = some out) (hK : go_out (ggX6_readProduct_B_7 w tx Q dd rec a0 ) (eeX6_readProduct_B_7 w tx Q dd rec a0 ) out) : ggX6_readProduct_B_7 w tx Q dd rec a0  (v2, μ) := by
  unfold lbX6_readProduct_B_7 at h
  show Go w (dd + 9) 0 0 mtX6_readProduct 7 [(0, .ref 372), (1, .int a0), (2, .int v2)] [] (go_mk tx μ) (go_Z w Q)
  refine go_iload_n dX6_readProduct_7 2 rfl ?_
  refine go_sipush (v := 300) dX6_readProduct_8 (by decide) ?_
  refine go_icmp_ge 62 dX6_readProduct_11 (by decide) (fun hc => ?_) (fun hc => ?_)
  · have h := go_ifp hc h
    cases h
    exact go_vret dX6_readProduct_62 rfl hK
  · have h := go_ifn hc h
    refine go_aload_n dX6_readProduct_14 0 rfl ?_
    refine pp_getI dX6_readProduct_15 ff_X6_54 (by decide) sh_372 ?_
    refine go_bipush (v := 46) dX6_readProduct_18 (by decide) ?_
    refine go_icmp_eq 32 dX6_readProduct_20 (by decide) (fun hc => ?_) (fun hc => ?_)
    · have h := go_ifp hc h
      refine go_pick [0, 1, 2] rfl ?_
      exact jqX6_readProduct_B_32_7 w tx Q dd μ rec a0 htx hrec v2    _ h hK
    · have h := go_ifn hc h
      refine go_aload_n dX6_readProduct_23 0 rfl ?_
      refine pp_getI dX6_readProduct_24 ff_X6_54 (by decide) sh_372 ?_
      refine go_bipush (v := 47) dX6_readProduct_27 (by decide) ?_
      refine go_icmp_ne 62 dX6_readProduct_29 (by decide) (fun hc => ?_) (fun hc => ?_)
      · have h := go_ifn hc h
        cases h
        exact go_vret dX6_readProduct_62 rfl hK
      · have h := go_ifp hc h
        refine go_pick [0, 1, 2] rfl ?_
        exact jqX6_readProduct_B_32_7 w tx Q dd μ rec a0 htx hrec v2    _ h hK
set_option maxRecDepth 20000 in
set_option maxHeartbeats 4000000 in
theorem cmX6_readProduct_B (w : go_Wd) (tx : Nat) (Q : Option Value → go_M → Prop) (dd : Nat) (μ : PM) (rec : Nat → PM → Int32 → Option PM) (a0 : Int32) (htx : go_isT tx) (hrec : ∀ (k : Nat) (μ : PM) (x : Int32) (out : PM), rec k μ x = some out → Ct w dd 0 0 (rdMt k) [.ref 372, .int x] (go_mk tx μ) (fun r' M' => r' = none ∧ M' = go_mk tx out)) (out : PM) (h : fX6_readProduct_B tx μ rec a0 = some out) (hK : Q none (go_mk tx out)) : Go w (dd + 9) 0 0 mtX6_readProduct 0 [(0, .ref 372), (1, .int a0)] [] (go_mk tx μ) (go_Z w Q) := by
  unfold fX6_readProduct_B at h
  refine go_aload_n dX6_readProduct_0 0 rfl ?_
  refine go_iload_n dX6_readProduct_1 1 rfl ?_
  obtain ⟨q1, hq1, h⟩ := go_bind h
  refine pp_callV (as := [.int a0]) (st := []) (rv := none) (μ1 := q1) (st1 := []) dX6_readProduct_2 ll_X6_150 sh_372 (by decide) rfl (hrec 2 μ a0 _ hq1) rfl (by omega) (Nat.le_of_ble_eq_true rfl) (go_Z_up w _) rfl rfl ?_
  refine go_iconst (v := 0) dX6_readProduct_5 (by decide) ?_
  refine go_istore_n dX6_readProduct_6 (by decide) rfl ?_
  show Go w (dd + 9) 0 0 mtX6_readProduct 7 [(2, .int 0), (0, .ref 372), (1, .int a0)] [] (go_mk tx q1) (go_Z w Q)
  obtain ⟨ρ5, hρ5, h⟩ := go_bind h
  refine go_pick [1, 2, 0] rfl ?_
  refine go_lp (G := ggX6_readProduct_B_7 w tx Q dd rec a0 ) (E := eeX6_readProduct_B_7 w tx Q dd rec a0 ) (fun s out h hK => lqX6_readProduct_B_7 w tx Q dd rec a0 htx hrec   s.1 s.2 out h hK) go_fuel (0, q1) ρ5 hρ5 ?_
  cases h
  exact hK
def jjX6_readSum_B_32_7 (tx : Nat) (μ : PM) (rec : Nat → PM → Int32 → Option PM) (a0 : Int32) (v2 : Int32)  : Option ((Int32 × PM) ⊕ (PM)) :=
  (fX6_advance μ).bind fun q2 => (rec 1 q2 a0).bind fun q3 => (fX8_emit q3 tx (μ.1 372 6) 0).bind fun q4 => some (.inl ((v2 + 1), q4.2))
def lbX6_readSum_B_7 (tx : Nat) (rec : Nat → PM → Int32 → Option PM) (a0 : Int32)  (v2 : Int32) (μ : PM) : Option ((Int32 × PM) ⊕ (PM)) :=
  (if 300 ≤ v2 then some (.inr (μ)) else (if (μ.1 372 6) = 44 then jjX6_readSum_B_32_7 tx μ rec a0 v2 else (if (μ.1 372 6) = 45 then jjX6_readSum_B_32_7 tx μ rec a0 v2 else some (.inr (μ)))))
def fX6_readSum_B (tx : Nat) (μ : PM) (rec : Nat → PM → Int32 → Option PM) (a0 : Int32) : Option (PM) :=
  (rec 1 μ a0).bind fun q1 => ((lp (fun s => lbX6_readSum_B_7 tx rec a0 s.1 s.2) go_fuel (0, q1)).bind fun ρ5 => some ρ5)
def ggX6_readSum_B_7 (w : go_Wd) (tx : Nat) (Q : Option Value → go_M → Prop) (dd : Nat) (rec : Nat → PM → Int32 → Option PM) (a0 : Int32)  (s : Int32 × PM) : Prop := Go w (dd + 9) 0 0 mtX6_readSum 7 [(0, .ref 372), (1, .int a0), (2, .int s.1)] [] (go_mk tx s.2) (go_Z w Q)
def eeX6_readSum_B_7 (w : go_Wd) (tx : Nat) (Q : Option Value → go_M → Prop) (dd : Nat) (rec : Nat → PM → Int32 → Option PM) (a0 : Int32)  (y : PM) : Prop := Q none (go_mk tx y)
set_option maxRecDepth 20000 in
set_option maxHeartbeats 4000000 in
theorem jqX6_readSum_B_32_7 (w : go_Wd) (tx : Nat) (Q : Option Value → go_M → Prop) (dd : Nat) (μ : PM) (rec : Nat → PM → Int32 → Option PM) (a0 : Int32) (htx : go_isT tx) (hrec : ∀ (k : Nat) (μ : PM) (x : Int32) (out : PM), rec k μ x = some out → Ct w dd 0 0 (rdMt k) [.ref 372, .int x] (go_mk tx μ) (fun r' M' => r' = none ∧ M' = go_mk tx out)) (v2 : Int32)    (out : (Int32 × PM) ⊕ (PM)) (h : jjX6_readSum_B_32_7 tx μ rec a0 v2  = some out) (hK : go_out (ggX6_readSum_B_7 w tx Q dd rec a0 ) (eeX6_readSum_B_7 w tx Q dd rec a0 ) out) : Go w (dd + 9) 0 0 mtX6_readSum 32 [(0, .ref 372), (1, .int a0), (2, .int v2)] [] (go_mk tx μ) (go_Z w Q) := by
  unfold jjX6_readSum_B_32_7 at h
  refine go_aload_n dX6_readSum_32 0 rfl ?_
  refine pp_getI dX6_readSum_33 ff_X6_54 (by decide) sh_372 ?_
  refine go_istore_n dX6_readSum_36 (by decide) rfl ?_
  show Go w (dd + 9) 0 0 mtX6_readSum 37 [(3, .int (μ.1 372 6)), (0, .ref 372), (1, .int a0), (2, .int v2)] [] (go_mk tx μ) (go_Z w Q)
  refine go_aload_n dX6_readSum_37 1 rfl ?_
  obtain ⟨q2, hq2, h⟩ := go_bind h
  refine pp_callV (as := []) (st := []) (rv := none) (μ1 := q2) (st1 := []) dX6_readSum_38 ll_X6_108 sh_372 (by decide) rfl (ctX6_advance  hq2) rfl (by omega) (Nat.le_of_ble_eq_true rfl) (go_Z_up w _) rfl rfl ?_
  refine go_aload_n dX6_readSum_41 1 rfl ?_
  refine go_iload_n dX6_readSum_42 2 rfl ?_
  obtain ⟨q3, hq3, h⟩ := go_bind h
  refine pp_callV (as := [.int a0]) (st := []) (rv := none) (μ1 := q3) (st1 := []) dX6_readSum_43 ll_X6_147 sh_372 (by decide) rfl (hrec 1 q2 a0 _ hq3) rfl (by omega) (Nat.le_of_ble_eq_true rfl) (go_Z_up w _) rfl rfl ?_
  refine go_aload_n dX6_readSum_46 1 rfl ?_
  refine pp_getR dX6_readSum_47 ff_X6_27 (Or.inl ⟨_, rfl⟩) sh_372 go_RF_tx ?_
  refine go_iload_n dX6_readSum_50 0 rfl ?_
  refine go_iconst (v := 0) dX6_readSum_51 (by decide) ?_
  obtain ⟨q4, hq4, h⟩ := go_bind h
  refine pp_callV (as := [.int (μ.1 372 6), .int 0]) (st := []) (rv := (some (.int q4.1))) (μ1 := q4.2) (st1 := [.int q4.1]) dX6_readSum_52 ll_X6_122 htx.1 (by decide) rfl (ctX8_emit htx hq4) rfl (by omega) (Nat.le_of_ble_eq_true rfl) (go_Z_up w _) rfl rfl ?_
  refine go_pop dX6_readSum_55 rfl ?_
  refine go_iinc (v := (v2 + 1)) dX6_readSum_56 3 rfl rfl (by decide) rfl ?_
  show Go w (dd + 9) 0 0 mtX6_readSum 59 [(2, .int (v2 + 1)), (3, .int (μ.1 372 6)), (0, .ref 372), (1, .int a0)] [] (go_mk tx q4.2) (go_Z w Q)
  refine go_goto 7 dX6_readSum_59 (by decide) ?_
  cases h
  have hK : Go w (dd + 9) 0 0 mtX6_readSum 7 [(0, .ref 372), (1, .int a0), (2, .int (v2 + 1))] [] (go_mk tx q4.2) (go_Z w Q) := hK
  exact go_pick [2, 3, 0] rfl hK
set_option maxRecDepth 20000 in
set_option maxHeartbeats 4000000 in
theorem lqX6_readSum_B_7 (w : go_Wd) (tx : Nat) (Q : Option Value → go_M → Prop) (dd : Nat) (rec : Nat → PM → Int32 → Option PM) (a0 : Int32) (htx : go_isT tx) (hrec : ∀ (k : Nat) (μ : PM) (x : Int32) (out : PM), rec k μ x = some out → Ct w dd 0 0 (rdMt k) [.ref 372, .int x] (go_mk tx μ) (fun r' M' => r' = none ∧ M' = go_mk tx out))   (v2 : Int32) (μ : PM) (out : (Int32 × PM) ⊕ (PM)) (h : lbX6_readSum_B_7 tx rec a0  v2 μ = some out) (hK : go_out (ggX6_readSum_B_7 w tx Q dd rec a0 ) (eeX6_readSum_B_7 w tx Q dd rec a0 ) out) : ggX6_readSum_B_7 w tx Q dd rec a0  (v2, μ) := by
  unfold lbX6_readSum_B_7 at h
  show Go w (dd + 9) 0 0 mtX6_readSum 7 [(0, .ref 372), (1, .int a0), (2, .int v2)] [] (go_mk tx μ) (go_Z w Q)
  refine go_iload_n dX6_readSum_7 2 rfl ?_
  refine go_sipush (v := 300) dX6_readSum_8 (by decide) ?_
  refine go_icmp_ge 62 dX6_readSum_11 (by decide) (fun hc => ?_) (fun hc => ?_)
  · have h := go_ifp hc h
    cases h
    exact go_vret dX6_readSum_62 rfl hK
  · have h := go_ifn hc h
    refine go_aload_n dX6_readSum_14 0 rfl ?_
    refine pp_getI dX6_readSum_15 ff_X6_54 (by decide) sh_372 ?_
    refine go_bipush (v := 44) dX6_readSum_18 (by decide) ?_
    refine go_icmp_eq 32 dX6_readSum_20 (by decide) (fun hc => ?_) (fun hc => ?_)
    · have h := go_ifp hc h
      refine go_pick [0, 1, 2] rfl ?_
      exact jqX6_readSum_B_32_7 w tx Q dd μ rec a0 htx hrec v2    _ h hK
    · have h := go_ifn hc h
      refine go_aload_n dX6_readSum_23 0 rfl ?_
      refine pp_getI dX6_readSum_24 ff_X6_54 (by decide) sh_372 ?_
      refine go_bipush (v := 45) dX6_readSum_27 (by decide) ?_
      refine go_icmp_ne 62 dX6_readSum_29 (by decide) (fun hc => ?_) (fun hc => ?_)
      · have h := go_ifn hc h
        cases h
        exact go_vret dX6_readSum_62 rfl hK
      · have h := go_ifp hc h
        refine go_pick [0, 1, 2] rfl ?_
        exact jqX6_readSum_B_32_7 w tx Q dd μ rec a0 htx hrec v2    _ h hK
set_option maxRecDepth 20000 in
set_option maxHeartbeats 4000000 in
theorem cmX6_readSum_B (w : go_Wd) (tx : Nat) (Q : Option Value → go_M → Prop) (dd : Nat) (μ : PM) (rec : Nat → PM → Int32 → Option PM) (a0 : Int32) (htx : go_isT tx) (hrec : ∀ (k : Nat) (μ : PM) (x : Int32) (out : PM), rec k μ x = some out → Ct w dd 0 0 (rdMt k) [.ref 372, .int x] (go_mk tx μ) (fun r' M' => r' = none ∧ M' = go_mk tx out)) (out : PM) (h : fX6_readSum_B tx μ rec a0 = some out) (hK : Q none (go_mk tx out)) : Go w (dd + 9) 0 0 mtX6_readSum 0 [(0, .ref 372), (1, .int a0)] [] (go_mk tx μ) (go_Z w Q) := by
  unfold fX6_readSum_B at h
  refine go_aload_n dX6_readSum_0 0 rfl ?_
  refine go_iload_n dX6_readSum_1 1 rfl ?_
  obtain ⟨q1, hq1, h⟩ := go_bind h
  refine pp_callV (as := [.int a0]) (st := []) (rv := none) (μ1 := q1) (st1 := []) dX6_readSum_2 ll_X6_147 sh_372 (by decide) rfl (hrec 1 μ a0 _ hq1) rfl (by omega) (Nat.le_of_ble_eq_true rfl) (go_Z_up w _) rfl rfl ?_
  refine go_iconst (v := 0) dX6_readSum_5 (by decide) ?_
  refine go_istore_n dX6_readSum_6 (by decide) rfl ?_
  show Go w (dd + 9) 0 0 mtX6_readSum 7 [(2, .int 0), (0, .ref 372), (1, .int a0)] [] (go_mk tx q1) (go_Z w Q)
  obtain ⟨ρ5, hρ5, h⟩ := go_bind h
  refine go_pick [1, 2, 0] rfl ?_
  refine go_lp (G := ggX6_readSum_B_7 w tx Q dd rec a0 ) (E := eeX6_readSum_B_7 w tx Q dd rec a0 ) (fun s out h hK => lqX6_readSum_B_7 w tx Q dd rec a0 htx hrec   s.1 s.2 out h hK) go_fuel (0, q1) ρ5 hρ5 ?_
  cases h
  exact hK
def rdF (tx : Nat) : Nat → Nat → PM → Int32 → Option PM
  | 0, _, _, _ => none
  | n + 1, 0, μ, x => fX6_readSum_B tx μ (rdF tx n) x
  | n + 1, 1, μ, x => fX6_readProduct_B tx μ (rdF tx n) x
  | n + 1, 2, μ, x => fX6_readOne_B tx μ (rdF tx n) x
  | n + 1, 3, μ, x => fX6_readChoice_B tx μ (rdF tx n) x
  | n + 1, 4, μ, x => fX6_readEither_B tx μ (rdF tx n) x
  | n + 1, 5, μ, x => fX6_readBoth_B tx μ (rdF tx n) x
  | n + 1, _, μ, x => fX6_readAsk_B tx μ (rdF tx n) x
theorem rdF_ok (w : go_Wd) (tx : Nat) (htx : go_isT tx) : ∀ (n k : Nat) (μ : PM) (x : Int32) (out : PM), rdF tx n k μ x = some out → Ct w (9 * n) 0 0 (rdMt k) [.ref 372, .int x] (go_mk tx μ) (fun r' M' => r' = none ∧ M' = go_mk tx out) := by
  intro n
  induction n with
  | zero => intro k μ x out h; cases h
  | succ n ih =>
    intro k μ x out h
    match k, h with
    | 0, h => exact go_entry rfl (by show plainName mtX6_readSum.2.1.cls = true; decide) (Nat.le_of_ble_eq_true rfl) (cmX6_readSum_B w tx _ (9 * n) μ (rdF tx n) x htx (fun k μ x out h => ih k μ x out h) out h ⟨rfl, rfl⟩)
    | 1, h => exact go_entry rfl (by show plainName mtX6_readProduct.2.1.cls = true; decide) (Nat.le_of_ble_eq_true rfl) (cmX6_readProduct_B w tx _ (9 * n) μ (rdF tx n) x htx (fun k μ x out h => ih k μ x out h) out h ⟨rfl, rfl⟩)
    | 2, h => exact go_entry rfl (by show plainName mtX6_readOne.2.1.cls = true; decide) (Nat.le_of_ble_eq_true rfl) (cmX6_readOne_B w tx _ (9 * n) μ (rdF tx n) x htx (fun k μ x out h => ih k μ x out h) out h ⟨rfl, rfl⟩)
    | 3, h => exact go_entry rfl (by show plainName mtX6_readChoice.2.1.cls = true; decide) (Nat.le_of_ble_eq_true rfl) (cmX6_readChoice_B w tx _ (9 * n) μ (rdF tx n) x htx (fun k μ x out h => ih k μ x out h) out h ⟨rfl, rfl⟩)
    | 4, h => exact go_entry rfl (by show plainName mtX6_readEither.2.1.cls = true; decide) (Nat.le_of_ble_eq_true rfl) (cmX6_readEither_B w tx _ (9 * n) μ (rdF tx n) x htx (fun k μ x out h => ih k μ x out h) out h ⟨rfl, rfl⟩)
    | 5, h => exact go_entry rfl (by show plainName mtX6_readBoth.2.1.cls = true; decide) (Nat.le_of_ble_eq_true rfl) (cmX6_readBoth_B w tx _ (9 * n) μ (rdF tx n) x htx (fun k μ x out h => ih k μ x out h) out h ⟨rfl, rfl⟩)
    | k + 6, h => exact go_entry rfl (by show plainName mtX6_readAsk.2.1.cls = true; decide) (Nat.le_of_ble_eq_true rfl) (cmX6_readAsk_B w tx _ (9 * n) μ (rdF tx n) x htx (fun k μ x out h => ih k μ x out h) out h ⟨rfl, rfl⟩)
def fX6_readSum (tx : Nat) (μ : PM) (a0 : Int32) : Option PM := rdF tx 60 0 μ a0
theorem ctX6_readSum {w : go_Wd} {tx : Nat} {μ : PM} {a0 : Int32} {μ1 : PM} (htx : go_isT tx) (h : fX6_readSum tx μ a0 = some μ1) : Ct w 540 0 0 mtX6_readSum [.ref 372, .int a0] (go_mk tx μ) (fun r' M' => r' = none ∧ M' = go_mk tx μ1) := rdF_ok w tx htx 60 0 μ a0 μ1 h
def fX6_readProduct (tx : Nat) (μ : PM) (a0 : Int32) : Option PM := rdF tx 60 1 μ a0
theorem ctX6_readProduct {w : go_Wd} {tx : Nat} {μ : PM} {a0 : Int32} {μ1 : PM} (htx : go_isT tx) (h : fX6_readProduct tx μ a0 = some μ1) : Ct w 540 0 0 mtX6_readProduct [.ref 372, .int a0] (go_mk tx μ) (fun r' M' => r' = none ∧ M' = go_mk tx μ1) := rdF_ok w tx htx 60 1 μ a0 μ1 h
def fX6_readOne (tx : Nat) (μ : PM) (a0 : Int32) : Option PM := rdF tx 60 2 μ a0
theorem ctX6_readOne {w : go_Wd} {tx : Nat} {μ : PM} {a0 : Int32} {μ1 : PM} (htx : go_isT tx) (h : fX6_readOne tx μ a0 = some μ1) : Ct w 540 0 0 mtX6_readOne [.ref 372, .int a0] (go_mk tx μ) (fun r' M' => r' = none ∧ M' = go_mk tx μ1) := rdF_ok w tx htx 60 2 μ a0 μ1 h
def fX6_readChoice (tx : Nat) (μ : PM) (a0 : Int32) : Option PM := rdF tx 60 3 μ a0
theorem ctX6_readChoice {w : go_Wd} {tx : Nat} {μ : PM} {a0 : Int32} {μ1 : PM} (htx : go_isT tx) (h : fX6_readChoice tx μ a0 = some μ1) : Ct w 540 0 0 mtX6_readChoice [.ref 372, .int a0] (go_mk tx μ) (fun r' M' => r' = none ∧ M' = go_mk tx μ1) := rdF_ok w tx htx 60 3 μ a0 μ1 h
def fX6_readEither (tx : Nat) (μ : PM) (a0 : Int32) : Option PM := rdF tx 60 4 μ a0
theorem ctX6_readEither {w : go_Wd} {tx : Nat} {μ : PM} {a0 : Int32} {μ1 : PM} (htx : go_isT tx) (h : fX6_readEither tx μ a0 = some μ1) : Ct w 540 0 0 mtX6_readEither [.ref 372, .int a0] (go_mk tx μ) (fun r' M' => r' = none ∧ M' = go_mk tx μ1) := rdF_ok w tx htx 60 4 μ a0 μ1 h
def fX6_readBoth (tx : Nat) (μ : PM) (a0 : Int32) : Option PM := rdF tx 60 5 μ a0
theorem ctX6_readBoth {w : go_Wd} {tx : Nat} {μ : PM} {a0 : Int32} {μ1 : PM} (htx : go_isT tx) (h : fX6_readBoth tx μ a0 = some μ1) : Ct w 540 0 0 mtX6_readBoth [.ref 372, .int a0] (go_mk tx μ) (fun r' M' => r' = none ∧ M' = go_mk tx μ1) := rdF_ok w tx htx 60 5 μ a0 μ1 h
def fX6_readAsk (tx : Nat) (μ : PM) (a0 : Int32) : Option PM := rdF tx 60 6 μ a0
theorem ctX6_readAsk {w : go_Wd} {tx : Nat} {μ : PM} {a0 : Int32} {μ1 : PM} (htx : go_isT tx) (h : fX6_readAsk tx μ a0 = some μ1) : Ct w 540 0 0 mtX6_readAsk [.ref 372, .int a0] (go_mk tx μ) (fun r' M' => r' = none ∧ M' = go_mk tx μ1) := rdF_ok w tx htx 60 6 μ a0 μ1 h
def jjX6_takeSounds_39 (μ : PM)    : Option (Int32 × PM) :=
  (fX6_takeWithin μ 1 9999).bind fun q2 => some ((q2.1, q2.2))
def fX6_takeSounds (μ : PM)  : Option (Int32 × PM) :=
  (fX6_valueHere μ).bind fun q1 => (if (μ.1 372 6) = 32 then (if q1 < 1 then jjX6_takeSounds_39 μ else (if 9999 < q1 then jjX6_takeSounds_39 μ else (fX11_countSounds q1).bind fun q3 => (if q3 = 0 then (fX6_refuse μ 7).bind fun q4 => jjX6_takeSounds_39 q4 else jjX6_takeSounds_39 μ))) else jjX6_takeSounds_39 μ)
set_option maxRecDepth 20000 in
set_option maxHeartbeats 4000000 in
theorem jqX6_takeSounds_39 (w : go_Wd) (tx : Nat) (Q : Option Value → go_M → Prop) (μ : PM)      (out : Int32 × PM) (h : jjX6_takeSounds_39 μ   = some out) (hK : Q (some (.int out.1)) (go_mk tx out.2)) : Go w 2 0 0 mtX6_takeSounds 39 [(0, .ref 372)] [] (go_mk tx μ) (go_Z w Q) := by
  unfold jjX6_takeSounds_39 at h
  refine go_aload_n dX6_takeSounds_39 0 rfl ?_
  refine go_iconst (v := 1) dX6_takeSounds_40 (by decide) ?_
  refine go_sipush (v := 9999) dX6_takeSounds_41 (by decide) ?_
  obtain ⟨q2, hq2, h⟩ := go_bind h
  refine pp_callV (as := [.int 1, .int 9999]) (st := []) (rv := (some (.int q2.1))) (μ1 := q2.2) (st1 := [.int q2.1]) dX6_takeSounds_44 ll_X6_131 sh_372 (by decide) rfl (ctX6_takeWithin  hq2) rfl (Nat.le_of_ble_eq_true rfl) (Nat.le_of_ble_eq_true rfl) (go_Z_up w _) rfl rfl ?_
  cases h
  exact go_iret dX6_takeSounds_47 rfl hK
set_option maxRecDepth 20000 in
set_option maxHeartbeats 4000000 in
theorem cmX6_takeSounds (w : go_Wd) (tx : Nat) (Q : Option Value → go_M → Prop) (μ : PM)  (out : Int32 × PM) (h : fX6_takeSounds μ = some out) (hK : Q (some (.int out.1)) (go_mk tx out.2)) : Go w 2 0 0 mtX6_takeSounds 0 [(0, .ref 372)] [] (go_mk tx μ) (go_Z w Q) := by
  unfold fX6_takeSounds at h
  refine go_aload_n dX6_takeSounds_0 0 rfl ?_
  obtain ⟨q1, hq1, h⟩ := go_bind h
  refine pp_callV (as := []) (st := []) (rv := (some (.int q1))) (μ1 := μ) (st1 := [.int q1]) dX6_takeSounds_1 ll_X6_141 sh_372 (by decide) rfl (ctX6_valueHere  hq1) rfl (Nat.le_of_ble_eq_true rfl) (Nat.le_of_ble_eq_true rfl) (go_Z_up w _) rfl rfl ?_
  refine go_istore_n dX6_takeSounds_4 (by decide) rfl ?_
  show Go w 2 0 0 mtX6_takeSounds 5 [(1, .int q1), (0, .ref 372)] [] (go_mk tx μ) (go_Z w Q)
  refine go_aload_n dX6_takeSounds_5 1 rfl ?_
  refine pp_getI dX6_takeSounds_6 ff_X6_54 (by decide) sh_372 ?_
  refine go_bipush (v := 32) dX6_takeSounds_9 (by decide) ?_
  refine go_icmp_ne 39 dX6_takeSounds_11 (by decide) (fun hc => ?_) (fun hc => ?_)
  · have h := go_ifn hc h
    refine go_pick [1] rfl ?_
    exact jqX6_takeSounds_39 w tx Q μ      _ h hK
  · have h := go_ifp hc h
    refine go_iload_n dX6_takeSounds_14 0 rfl ?_
    refine go_iconst (v := 1) dX6_takeSounds_15 (by decide) ?_
    refine go_icmp_lt 39 dX6_takeSounds_16 (by decide) (fun hc => ?_) (fun hc => ?_)
    · have h := go_ifp hc h
      refine go_pick [1] rfl ?_
      exact jqX6_takeSounds_39 w tx Q μ      _ h hK
    · have h := go_ifn hc h
      refine go_iload_n dX6_takeSounds_19 0 rfl ?_
      refine go_sipush (v := 9999) dX6_takeSounds_20 (by decide) ?_
      refine go_icmp_gt 39 dX6_takeSounds_23 (by decide) (fun hc => ?_) (fun hc => ?_)
      · have h := go_ifp hc h
        refine go_pick [1] rfl ?_
        exact jqX6_takeSounds_39 w tx Q μ      _ h hK
      · have h := go_ifn hc h
        refine go_iload_n dX6_takeSounds_26 0 rfl ?_
        obtain ⟨q3, hq3, h⟩ := go_bind h
        refine pp_callSN (as := [.int q1]) (st := []) (rv := (some (.int q3))) (μ1 := μ) (st1 := [.int q3]) dX6_takeSounds_27 ll_X6_144 (ctX11_countSounds  hq3) rfl (Nat.le_of_ble_eq_true rfl) (Nat.le_of_ble_eq_true rfl) (go_Z_up w _) rfl rfl ?_
        refine go_if_ne 39 dX6_takeSounds_30 (by decide) (fun hc => ?_) (fun hc => ?_)
        · have h := go_ifn hc h
          refine go_pick [1] rfl ?_
          exact jqX6_takeSounds_39 w tx Q μ      _ h hK
        · have h := go_ifp hc h
          refine go_aload_n dX6_takeSounds_33 1 rfl ?_
          refine go_bipush (v := 7) dX6_takeSounds_34 (by decide) ?_
          obtain ⟨q4, hq4, h⟩ := go_bind h
          refine pp_callV (as := [.int 7]) (st := []) (rv := none) (μ1 := q4) (st1 := []) dX6_takeSounds_36 ll_X6_99 sh_372 (by decide) rfl (ctX6_refuse  hq4) rfl (Nat.le_of_ble_eq_true rfl) (Nat.le_of_ble_eq_true rfl) (go_Z_up w _) rfl rfl ?_
          refine go_pick [1] rfl ?_
          exact jqX6_takeSounds_39 w tx Q q4      _ h hK
theorem ctX6_takeSounds {w : go_Wd} {tx : Nat} {μ : PM}  {r : Int32} {μ1 : PM}  (h : fX6_takeSounds μ = some (r, μ1)) : Ct w 2 0 0 mtX6_takeSounds [.ref 372] (go_mk tx μ) (fun r' M' => r' = some (.int r) ∧ M' = go_mk tx μ1) :=
  go_entry rfl (by decide) (Nat.le_of_ble_eq_true rfl) (cmX6_takeSounds w tx _ μ  _ h ⟨rfl, rfl⟩)
def fX6_takeFirst (μ : PM) (a0 : Int32) : Option (Int32 × PM) :=
  (if a0 = 4 then (fX6_takeWithin μ 1 9).bind fun q2 => some ((q2.1, q2.2)) else (if a0 = 5 then (fX6_takeWithin μ 0 5).bind fun q4 => some ((q4.1, q4.2)) else (if a0 = 6 then (fX6_takeWithin μ 0 9).bind fun q6 => some ((q6.1, q6.2)) else (if a0 = 7 then (fX6_takeWithin μ 0 9).bind fun q8 => some ((q8.1, q8.2)) else (if a0 = 8 then (fX6_takeWithin μ 0 4).bind fun q10 => some ((q10.1, q10.2)) else (if a0 = 9 then (fX6_takeWithin μ 0 5).bind fun q12 => some ((q12.1, q12.2)) else (if a0 = 10 then (fX6_takeWithin μ 1 60).bind fun q14 => some ((q14.1, q14.2)) else (fX6_takeWithin μ 0 5).bind fun q15 => some ((q15.1, q15.2)))))))))
set_option maxRecDepth 20000 in
set_option maxHeartbeats 4000000 in
theorem cmX6_takeFirst (w : go_Wd) (tx : Nat) (Q : Option Value → go_M → Prop) (μ : PM) (a0 : Int32) (out : Int32 × PM) (h : fX6_takeFirst μ a0 = some out) (hK : Q (some (.int out.1)) (go_mk tx out.2)) : Go w 2 0 0 mtX6_takeFirst 0 [(0, .ref 372), (1, .int a0)] [] (go_mk tx μ) (go_Z w Q) := by
  unfold fX6_takeFirst at h
  refine go_iload_n dX6_takeFirst_0 1 rfl ?_
  by_cases hc1 : a0 = 4
  · have h := go_ifp hc1 h
    refine go_tabIn (off := 43) 44 dX6_takeFirst_1 4 hc1 (by decide) (by decide) (by decide) (by decide) ?_
    refine go_aload_n dX6_takeFirst_44 0 rfl ?_
    refine go_iconst (v := 1) dX6_takeFirst_45 (by decide) ?_
    refine go_bipush (v := 9) dX6_takeFirst_46 (by decide) ?_
    obtain ⟨q2, hq2, h⟩ := go_bind h
    refine pp_callV (as := [.int 1, .int 9]) (st := []) (rv := (some (.int q2.1))) (μ1 := q2.2) (st1 := [.int q2.1]) dX6_takeFirst_48 ll_X6_131 sh_372 (by decide) rfl (ctX6_takeWithin  hq2) rfl (Nat.le_of_ble_eq_true rfl) (Nat.le_of_ble_eq_true rfl) (go_Z_up w _) rfl rfl ?_
    cases h
    exact go_iret dX6_takeFirst_51 rfl hK
  · have h := go_ifn hc1 h
    by_cases hc3 : a0 = 5
    · have h := go_ifp hc3 h
      refine go_tabIn (off := 74) 75 dX6_takeFirst_1 5 hc3 (by decide) (by decide) (by decide) (by decide) ?_
      refine go_aload_n dX6_takeFirst_75 0 rfl ?_
      refine go_iconst (v := 0) dX6_takeFirst_76 (by decide) ?_
      refine go_iconst (v := 5) dX6_takeFirst_77 (by decide) ?_
      obtain ⟨q4, hq4, h⟩ := go_bind h
      refine pp_callV (as := [.int 0, .int 5]) (st := []) (rv := (some (.int q4.1))) (μ1 := q4.2) (st1 := [.int q4.1]) dX6_takeFirst_78 ll_X6_131 sh_372 (by decide) rfl (ctX6_takeWithin  hq4) rfl (Nat.le_of_ble_eq_true rfl) (Nat.le_of_ble_eq_true rfl) (go_Z_up w _) rfl rfl ?_
      cases h
      exact go_iret dX6_takeFirst_81 rfl hK
    · have h := go_ifn hc3 h
      by_cases hc5 : a0 = 6
      · have h := go_ifp hc5 h
        refine go_tabIn (off := 58) 59 dX6_takeFirst_1 6 hc5 (by decide) (by decide) (by decide) (by decide) ?_
        refine go_aload_n dX6_takeFirst_59 0 rfl ?_
        refine go_iconst (v := 0) dX6_takeFirst_60 (by decide) ?_
        refine go_bipush (v := 9) dX6_takeFirst_61 (by decide) ?_
        obtain ⟨q6, hq6, h⟩ := go_bind h
        refine pp_callV (as := [.int 0, .int 9]) (st := []) (rv := (some (.int q6.1))) (μ1 := q6.2) (st1 := [.int q6.1]) dX6_takeFirst_63 ll_X6_131 sh_372 (by decide) rfl (ctX6_takeWithin  hq6) rfl (Nat.le_of_ble_eq_true rfl) (Nat.le_of_ble_eq_true rfl) (go_Z_up w _) rfl rfl ?_
        cases h
        exact go_iret dX6_takeFirst_66 rfl hK
      · have h := go_ifn hc5 h
        by_cases hc7 : a0 = 7
        · have h := go_ifp hc7 h
          refine go_tabIn (off := 58) 59 dX6_takeFirst_1 7 hc7 (by decide) (by decide) (by decide) (by decide) ?_
          refine go_aload_n dX6_takeFirst_59 0 rfl ?_
          refine go_iconst (v := 0) dX6_takeFirst_60 (by decide) ?_
          refine go_bipush (v := 9) dX6_takeFirst_61 (by decide) ?_
          obtain ⟨q8, hq8, h⟩ := go_bind h
          refine pp_callV (as := [.int 0, .int 9]) (st := []) (rv := (some (.int q8.1))) (μ1 := q8.2) (st1 := [.int q8.1]) dX6_takeFirst_63 ll_X6_131 sh_372 (by decide) rfl (ctX6_takeWithin  hq8) rfl (Nat.le_of_ble_eq_true rfl) (Nat.le_of_ble_eq_true rfl) (go_Z_up w _) rfl rfl ?_
          cases h
          exact go_iret dX6_takeFirst_66 rfl hK
        · have h := go_ifn hc7 h
          by_cases hc9 : a0 = 8
          · have h := go_ifp hc9 h
            refine go_tabIn (off := 51) 52 dX6_takeFirst_1 8 hc9 (by decide) (by decide) (by decide) (by decide) ?_
            refine go_aload_n dX6_takeFirst_52 0 rfl ?_
            refine go_iconst (v := 0) dX6_takeFirst_53 (by decide) ?_
            refine go_iconst (v := 4) dX6_takeFirst_54 (by decide) ?_
            obtain ⟨q10, hq10, h⟩ := go_bind h
            refine pp_callV (as := [.int 0, .int 4]) (st := []) (rv := (some (.int q10.1))) (μ1 := q10.2) (st1 := [.int q10.1]) dX6_takeFirst_55 ll_X6_131 sh_372 (by decide) rfl (ctX6_takeWithin  hq10) rfl (Nat.le_of_ble_eq_true rfl) (Nat.le_of_ble_eq_true rfl) (go_Z_up w _) rfl rfl ?_
            cases h
            exact go_iret dX6_takeFirst_58 rfl hK
          · have h := go_ifn hc9 h
            by_cases hc11 : a0 = 9
            · have h := go_ifp hc11 h
              refine go_tabIn (off := 74) 75 dX6_takeFirst_1 9 hc11 (by decide) (by decide) (by decide) (by decide) ?_
              refine go_aload_n dX6_takeFirst_75 0 rfl ?_
              refine go_iconst (v := 0) dX6_takeFirst_76 (by decide) ?_
              refine go_iconst (v := 5) dX6_takeFirst_77 (by decide) ?_
              obtain ⟨q12, hq12, h⟩ := go_bind h
              refine pp_callV (as := [.int 0, .int 5]) (st := []) (rv := (some (.int q12.1))) (μ1 := q12.2) (st1 := [.int q12.1]) dX6_takeFirst_78 ll_X6_131 sh_372 (by decide) rfl (ctX6_takeWithin  hq12) rfl (Nat.le_of_ble_eq_true rfl) (Nat.le_of_ble_eq_true rfl) (go_Z_up w _) rfl rfl ?_
              cases h
              exact go_iret dX6_takeFirst_81 rfl hK
            · have h := go_ifn hc11 h
              by_cases hc13 : a0 = 10
              · have h := go_ifp hc13 h
                refine go_tabIn (off := 66) 67 dX6_takeFirst_1 10 hc13 (by decide) (by decide) (by decide) (by decide) ?_
                refine go_aload_n dX6_takeFirst_67 0 rfl ?_
                refine go_iconst (v := 1) dX6_takeFirst_68 (by decide) ?_
                refine go_bipush (v := 60) dX6_takeFirst_69 (by decide) ?_
                obtain ⟨q14, hq14, h⟩ := go_bind h
                refine pp_callV (as := [.int 1, .int 60]) (st := []) (rv := (some (.int q14.1))) (μ1 := q14.2) (st1 := [.int q14.1]) dX6_takeFirst_71 ll_X6_131 sh_372 (by decide) rfl (ctX6_takeWithin  hq14) rfl (Nat.le_of_ble_eq_true rfl) (Nat.le_of_ble_eq_true rfl) (go_Z_up w _) rfl rfl ?_
                cases h
                exact go_iret dX6_takeFirst_74 rfl hK
              · have h := go_ifn hc13 h
                refine go_tabOut 75 dX6_takeFirst_1 (by have g0 := go_ne_i (n := 4) hc1 (by decide); have g1 := go_ne_i (n := 5) hc3 (by decide); have g2 := go_ne_i (n := 6) hc5 (by decide); have g3 := go_ne_i (n := 7) hc7 (by decide); have g4 := go_ne_i (n := 8) hc9 (by decide); have g5 := go_ne_i (n := 9) hc11 (by decide); have g6 := go_ne_i (n := 10) hc13 (by decide); omega) (by decide) ?_
                refine go_aload_n dX6_takeFirst_75 0 rfl ?_
                refine go_iconst (v := 0) dX6_takeFirst_76 (by decide) ?_
                refine go_iconst (v := 5) dX6_takeFirst_77 (by decide) ?_
                obtain ⟨q15, hq15, h⟩ := go_bind h
                refine pp_callV (as := [.int 0, .int 5]) (st := []) (rv := (some (.int q15.1))) (μ1 := q15.2) (st1 := [.int q15.1]) dX6_takeFirst_78 ll_X6_131 sh_372 (by decide) rfl (ctX6_takeWithin  hq15) rfl (Nat.le_of_ble_eq_true rfl) (Nat.le_of_ble_eq_true rfl) (go_Z_up w _) rfl rfl ?_
                cases h
                exact go_iret dX6_takeFirst_81 rfl hK
theorem ctX6_takeFirst {w : go_Wd} {tx : Nat} {μ : PM} {a0 : Int32} {r : Int32} {μ1 : PM}  (h : fX6_takeFirst μ a0 = some (r, μ1)) : Ct w 2 0 0 mtX6_takeFirst [.ref 372, .int a0] (go_mk tx μ) (fun r' M' => r' = some (.int r) ∧ M' = go_mk tx μ1) :=
  go_entry rfl (by decide) (Nat.le_of_ble_eq_true rfl) (cmX6_takeFirst w tx _ μ a0 _ h ⟨rfl, rfl⟩)
def fX8_addClause (μ : PM) (o : Nat) (a0 : Int32) (a1 : Int32) (a2 : Int32) : Option (PM) :=
  (if (μ.1 o 6) < 0 then some (μ) else (if 24 ≤ (μ.1 o 6) then some (μ) else go_chk (μ.1 o 6) 24 <| go_let (pm_wi μ (o + 1) ((μ.1 o 6) : Int32).toNatClampNeg a0) fun μ1 => go_chk (μ1.1 o 6) 24 <| go_let (pm_wi μ1 (o + 2) ((μ1.1 o 6) : Int32).toNatClampNeg a1) fun μ3 => go_chk (μ3.1 o 6) 24 <| go_let (pm_wi μ3 (o + 3) ((μ3.1 o 6) : Int32).toNatClampNeg a2) fun μ5 => go_let (pm_wi μ5 o 6 ((μ5.1 o 6) + 1)) fun μ7 => some (μ7)))
set_option maxRecDepth 20000 in
set_option maxHeartbeats 4000000 in
theorem cmX8_addClause (w : go_Wd) (tx : Nat) (Q : Option Value → go_M → Prop) (μ : PM) (o : Nat) (a0 : Int32) (a1 : Int32) (a2 : Int32) (ho : go_isT o) (out : PM) (h : fX8_addClause μ o a0 a1 a2 = some out) (hK : Q none (go_mk tx out)) : Go w 0 0 0 mtX8_addClause 0 [(0, .ref o), (1, .int a0), (2, .int a1), (3, .int a2)] [] (go_mk tx μ) (go_Z w Q) := by
  unfold fX8_addClause at h
  refine go_aload_n dX8_addClause_0 0 rfl ?_
  refine pp_getI dX8_addClause_1 ff_X8_30 (by decide) ho.1 ?_
  refine go_if_lt 56 dX8_addClause_4 (by decide) (fun hc => ?_) (fun hc => ?_)
  · have h := go_ifp hc h
    cases h
    exact go_vret dX8_addClause_56 rfl hK
  · have h := go_ifn hc h
    refine go_aload_n dX8_addClause_7 0 rfl ?_
    refine pp_getI dX8_addClause_8 ff_X8_30 (by decide) ho.1 ?_
    refine go_bipush (v := 24) dX8_addClause_11 (by decide) ?_
    refine go_icmp_ge 56 dX8_addClause_13 (by decide) (fun hc => ?_) (fun hc => ?_)
    · have h := go_ifp hc h
      cases h
      exact go_vret dX8_addClause_56 rfl hK
    · have h := go_ifn hc h
      refine go_aload_n dX8_addClause_16 0 rfl ?_
      refine pp_getR dX8_addClause_17 ff_X8_9 (Or.inr ⟨_, rfl⟩) ho.1 (go_RF_ne ho.2.2.2.2.2.2.2.2.2.2.2.2.2 ho.2.2.2.2.2.2.2.1) ?_
      refine go_aload_n dX8_addClause_20 0 rfl ?_
      refine pp_getI dX8_addClause_21 ff_X8_30 (by decide) ho.1 ?_
      refine go_iload_n dX8_addClause_24 1 rfl ?_
      obtain ⟨hz2, h⟩ := go_chk_e h
      obtain ⟨μ1, hμ1, h⟩ := go_let_e h
      refine pp_ist dX8_addClause_25 ho.2.1 hz2 hμ1 ?_
      refine go_aload_n dX8_addClause_26 0 rfl ?_
      refine pp_getR dX8_addClause_27 ff_X8_15 (Or.inr ⟨_, rfl⟩) ho.1 (go_RF_ne ho.2.2.2.2.2.2.2.2.2.2.2.2.2 ho.2.2.2.2.2.2.2.2.1) ?_
      refine go_aload_n dX8_addClause_30 0 rfl ?_
      refine pp_getI dX8_addClause_31 ff_X8_30 (by decide) ho.1 ?_
      refine go_iload_n dX8_addClause_34 2 rfl ?_
      obtain ⟨hz4, h⟩ := go_chk_e h
      obtain ⟨μ3, hμ3, h⟩ := go_let_e h
      refine pp_ist dX8_addClause_35 ho.2.2.1 hz4 hμ3 ?_
      refine go_aload_n dX8_addClause_36 0 rfl ?_
      refine pp_getR dX8_addClause_37 ff_X8_18 (Or.inr ⟨_, rfl⟩) ho.1 (go_RF_ne ho.2.2.2.2.2.2.2.2.2.2.2.2.2 ho.2.2.2.2.2.2.2.2.2.1) ?_
      refine go_aload_n dX8_addClause_40 0 rfl ?_
      refine pp_getI dX8_addClause_41 ff_X8_30 (by decide) ho.1 ?_
      refine go_iload_n dX8_addClause_44 3 rfl ?_
      obtain ⟨hz6, h⟩ := go_chk_e h
      obtain ⟨μ5, hμ5, h⟩ := go_let_e h
      refine pp_ist dX8_addClause_45 ho.2.2.2.1 hz6 hμ5 ?_
      refine go_aload_n dX8_addClause_46 0 rfl ?_
      refine go_dup dX8_addClause_47 rfl ?_
      refine pp_getI dX8_addClause_48 ff_X8_30 (by decide) ho.1 ?_
      refine go_iconst (v := 1) dX8_addClause_51 (by decide) ?_
      refine go_iadd dX8_addClause_52 ?_
      obtain ⟨μ7, hμ7, h⟩ := go_let_e h
      refine pp_putI dX8_addClause_53 ff_X8_30 (Or.inl rfl) ho.1 hμ7 ?_
      cases h
      exact go_vret dX8_addClause_56 rfl hK
theorem ctX8_addClause {w : go_Wd} {tx : Nat} {μ : PM} {o : Nat} {a0 : Int32} {a1 : Int32} {a2 : Int32} {μ1 : PM} (ho : go_isT o) (h : fX8_addClause μ o a0 a1 a2 = some μ1) : Ct w 0 0 0 mtX8_addClause [.ref o, .int a0, .int a1, .int a2] (go_mk tx μ) (fun r' M' => r' = none ∧ M' = go_mk tx μ1) :=
  go_entry rfl (by decide) (Nat.le_of_ble_eq_true rfl) (cmX8_addClause w tx _ μ o a0 a1 a2 ho _ h ⟨rfl, rfl⟩)
def jjX6_readClause_15 (tx : Nat) (μ : PM)    : Option (PM) :=
  (fX6_refuse μ 1).bind fun q1 => some (q1)
def jjX6_readClause_197 (tx : Nat) (μ : PM)  (v1 : Int32) (v2 : Int32) (v3 : Int32)  : Option (PM) :=
  (fX6_expect μ 50).bind fun q9 => (fX8_addClause q9 tx v1 v2 v3).bind fun q10 => some (q10)
def jjX6_readClause_101 (tx : Nat) (μ : PM)  (v1 : Int32) (v2 : Int32) (v3 : Int32) (s1 : Int32) : Option (PM) :=
  go_let (pm_wi μ 372 7 s1) fun μ4 => go_chk v1 3 <| go_let (pm_wi μ4 (tx + 4) v1.toNatClampNeg (μ4.1 tx 7)) fun μ5 => (fX6_readSum tx μ5 0).bind fun q7 => (fX8_emit q7 tx 53 0).bind fun q8 => jjX6_readClause_197 tx q8.2 v1 v2 v3
def jjX6_readClause_79 (tx : Nat) (μ : PM)  (v1 : Int32) (v2 : Int32) (v3 : Int32)  : Option (PM) :=
  (if v1 = 0 then jjX6_readClause_101 tx μ v1 v2 v3 15 else (if v1 = 1 then jjX6_readClause_101 tx μ v1 v2 v3 16 else jjX6_readClause_101 tx μ v1 v2 v3 18))
def jjX6_readClause_183 (tx : Nat) (μ : PM)  (v1 : Int32) (v2 : Int32)  : Option (PM) :=
  (fX6_expect μ 20).bind fun q12 => (fX6_takeWithin q12 0 9).bind fun q13 => jjX6_readClause_197 tx q13.2 v1 v2 q13.1
def fX6_readClause (tx : Nat) (μ : PM)  : Option (PM) :=
  (if (μ.1 372 6) < 0 then jjX6_readClause_15 tx μ else (if (μ.1 372 6) ≤ 10 then (fX8_hasLaw μ tx (μ.1 372 6)).bind fun q2 => (if q2 = 0 then (if (μ.1 tx 6) < 24 then (fX6_advance μ).bind fun q3 => (if (μ.1 372 6) = 0 then jjX6_readClause_79 tx q3 ((μ.1 372 6)) 0 0 else (if (μ.1 372 6) = 1 then jjX6_readClause_79 tx q3 ((μ.1 372 6)) 0 0 else (if (μ.1 372 6) = 2 then jjX6_readClause_79 tx q3 ((μ.1 372 6)) 0 0 else (if (μ.1 372 6) = 3 then (fX6_takeSounds q3).bind fun q14 => (fX6_expect q14.2 19).bind fun q15 => (fX6_takeWithin q15 0 9).bind fun q16 => jjX6_readClause_197 tx q16.2 ((μ.1 372 6)) q14.1 q16.1 else (fX6_takeFirst q3 (μ.1 372 6)).bind fun q11 => (if (μ.1 372 6) = 4 then jjX6_readClause_183 tx q11.2 ((μ.1 372 6)) q11.1 else (if (μ.1 372 6) = 8 then jjX6_readClause_183 tx q11.2 ((μ.1 372 6)) q11.1 else jjX6_readClause_197 tx q11.2 ((μ.1 372 6)) q11.1 0)))))) else (fX6_refuse μ 6).bind fun q17 => some (q17)) else (fX6_refuse μ 4).bind fun q18 => some (q18)) else jjX6_readClause_15 tx μ))
set_option maxRecDepth 20000 in
set_option maxHeartbeats 4000000 in
theorem jqX6_readClause_15 (w : go_Wd) (tx : Nat) (Q : Option Value → go_M → Prop) (μ : PM) (htx : go_isT tx)     (out : PM) (h : jjX6_readClause_15 tx μ   = some out) (hK : Q none (go_mk tx out)) : Go w 541 0 0 mtX6_readClause 15 [(0, .ref 372)] [] (go_mk tx μ) (go_Z w Q) := by
  unfold jjX6_readClause_15 at h
  refine go_aload_n dX6_readClause_15 0 rfl ?_
  refine go_iconst (v := 1) dX6_readClause_16 (by decide) ?_
  obtain ⟨q1, hq1, h⟩ := go_bind h
  refine pp_callV (as := [.int 1]) (st := []) (rv := none) (μ1 := q1) (st1 := []) dX6_readClause_17 ll_X6_99 sh_372 (by decide) rfl (ctX6_refuse  hq1) rfl (Nat.le_of_ble_eq_true rfl) (Nat.le_of_ble_eq_true rfl) (go_Z_up w _) rfl rfl ?_
  cases h
  exact go_vret dX6_readClause_20 rfl hK
set_option maxRecDepth 20000 in
set_option maxHeartbeats 4000000 in
theorem jqX6_readClause_197 (w : go_Wd) (tx : Nat) (Q : Option Value → go_M → Prop) (μ : PM) (htx : go_isT tx) (v1 : Int32) (v2 : Int32) (v3 : Int32)    (out : PM) (h : jjX6_readClause_197 tx μ v1 v2 v3  = some out) (hK : Q none (go_mk tx out)) : Go w 541 0 0 mtX6_readClause 197 [(0, .ref 372), (1, .int v1), (2, .int v2), (3, .int v3)] [] (go_mk tx μ) (go_Z w Q) := by
  unfold jjX6_readClause_197 at h
  refine go_aload_n dX6_readClause_197 0 rfl ?_
  refine go_bipush (v := 50) dX6_readClause_198 (by decide) ?_
  obtain ⟨q9, hq9, h⟩ := go_bind h
  refine pp_callV (as := [.int 50]) (st := []) (rv := none) (μ1 := q9) (st1 := []) dX6_readClause_200 ll_X6_128 sh_372 (by decide) rfl (ctX6_expect  hq9) rfl (Nat.le_of_ble_eq_true rfl) (Nat.le_of_ble_eq_true rfl) (go_Z_up w _) rfl rfl ?_
  refine go_aload_n dX6_readClause_203 0 rfl ?_
  refine pp_getR dX6_readClause_204 ff_X6_27 (Or.inl ⟨_, rfl⟩) sh_372 go_RF_tx ?_
  refine go_iload_n dX6_readClause_207 1 rfl ?_
  refine go_iload_n dX6_readClause_208 2 rfl ?_
  refine go_iload_n dX6_readClause_209 3 rfl ?_
  obtain ⟨q10, hq10, h⟩ := go_bind h
  refine pp_callV (as := [.int v1, .int v2, .int v3]) (st := []) (rv := none) (μ1 := q10) (st1 := []) dX6_readClause_210 ll_X6_137 htx.1 (by decide) rfl (ctX8_addClause htx hq10) rfl (Nat.le_of_ble_eq_true rfl) (Nat.le_of_ble_eq_true rfl) (go_Z_up w _) rfl rfl ?_
  cases h
  exact go_vret dX6_readClause_213 rfl hK
set_option maxRecDepth 20000 in
set_option maxHeartbeats 4000000 in
theorem jqX6_readClause_101 (w : go_Wd) (tx : Nat) (Q : Option Value → go_M → Prop) (μ : PM) (htx : go_isT tx) (v1 : Int32) (v2 : Int32) (v3 : Int32)  (s1 : Int32)  (out : PM) (h : jjX6_readClause_101 tx μ v1 v2 v3 s1 = some out) (hK : Q none (go_mk tx out)) : Go w 541 0 0 mtX6_readClause 101 [(0, .ref 372), (1, .int v1), (2, .int v2), (3, .int v3)] [.int s1, .ref 372] (go_mk tx μ) (go_Z w Q) := by
  unfold jjX6_readClause_101 at h
  obtain ⟨μ4, hμ4, h⟩ := go_let_e h
  refine pp_putI dX6_readClause_101 ff_X6_111 (Or.inl rfl) sh_372 hμ4 ?_
  refine go_aload_n dX6_readClause_104 0 rfl ?_
  refine pp_getR dX6_readClause_105 ff_X6_27 (Or.inl ⟨_, rfl⟩) sh_372 go_RF_tx ?_
  refine pp_getR dX6_readClause_108 ff_X6_114 (Or.inr ⟨_, rfl⟩) htx.1 (go_RF_ne htx.2.2.2.2.2.2.2.2.2.2.2.2.2 htx.2.2.2.2.2.2.2.2.2.2.1) ?_
  refine go_iload_n dX6_readClause_111 1 rfl ?_
  refine go_aload_n dX6_readClause_112 0 rfl ?_
  refine pp_getR dX6_readClause_113 ff_X6_27 (Or.inl ⟨_, rfl⟩) sh_372 go_RF_tx ?_
  refine pp_getI dX6_readClause_116 ff_X6_117 (by decide) htx.1 ?_
  obtain ⟨hz6, h⟩ := go_chk_e h
  obtain ⟨μ5, hμ5, h⟩ := go_let_e h
  refine pp_ist dX6_readClause_119 htx.2.2.2.2.1 hz6 hμ5 ?_
  refine go_aload_n dX6_readClause_120 0 rfl ?_
  refine go_iconst (v := 0) dX6_readClause_121 (by decide) ?_
  obtain ⟨q7, hq7, h⟩ := go_bind h
  refine pp_callV (as := [.int 0]) (st := []) (rv := none) (μ1 := q7) (st1 := []) dX6_readClause_122 ll_X6_119 sh_372 (by decide) rfl (ctX6_readSum htx hq7) rfl (Nat.le_of_ble_eq_true rfl) (Nat.le_of_ble_eq_true rfl) (go_Z_up w _) rfl rfl ?_
  refine go_aload_n dX6_readClause_125 0 rfl ?_
  refine pp_getR dX6_readClause_126 ff_X6_27 (Or.inl ⟨_, rfl⟩) sh_372 go_RF_tx ?_
  refine go_bipush (v := 53) dX6_readClause_129 (by decide) ?_
  refine go_iconst (v := 0) dX6_readClause_131 (by decide) ?_
  obtain ⟨q8, hq8, h⟩ := go_bind h
  refine pp_callV (as := [.int 53, .int 0]) (st := []) (rv := (some (.int q8.1))) (μ1 := q8.2) (st1 := [.int q8.1]) dX6_readClause_132 ll_X6_122 htx.1 (by decide) rfl (ctX8_emit htx hq8) rfl (Nat.le_of_ble_eq_true rfl) (Nat.le_of_ble_eq_true rfl) (go_Z_up w _) rfl rfl ?_
  refine go_pop dX6_readClause_135 rfl ?_
  refine go_goto 197 dX6_readClause_136 (by decide) ?_
  refine go_pick [0, 1, 2, 3] rfl ?_
  exact jqX6_readClause_197 w tx Q q8.2 htx v1 v2 v3    _ h hK
set_option maxRecDepth 20000 in
set_option maxHeartbeats 4000000 in
theorem jqX6_readClause_79 (w : go_Wd) (tx : Nat) (Q : Option Value → go_M → Prop) (μ : PM) (htx : go_isT tx) (v1 : Int32) (v2 : Int32) (v3 : Int32)    (out : PM) (h : jjX6_readClause_79 tx μ v1 v2 v3  = some out) (hK : Q none (go_mk tx out)) : Go w 541 0 0 mtX6_readClause 79 [(0, .ref 372), (1, .int v1), (2, .int v2), (3, .int v3)] [] (go_mk tx μ) (go_Z w Q) := by
  unfold jjX6_readClause_79 at h
  refine go_aload_n dX6_readClause_79 0 rfl ?_
  refine go_iload_n dX6_readClause_80 1 rfl ?_
  refine go_if_ne 89 dX6_readClause_81 (by decide) (fun hc => ?_) (fun hc => ?_)
  · have h := go_ifn hc h
    refine go_iload_n dX6_readClause_89 1 rfl ?_
    refine go_iconst (v := 1) dX6_readClause_90 (by decide) ?_
    refine go_icmp_ne 99 dX6_readClause_91 (by decide) (fun hc => ?_) (fun hc => ?_)
    · have h := go_ifn hc h
      refine go_bipush (v := 18) dX6_readClause_99 (by decide) ?_
      refine go_pick [0, 1, 2, 3] rfl ?_
      exact jqX6_readClause_101 w tx Q μ htx v1 v2 v3  18  _ h hK
    · have h := go_ifp hc h
      refine go_bipush (v := 16) dX6_readClause_94 (by decide) ?_
      refine go_goto 101 dX6_readClause_96 (by decide) ?_
      refine go_pick [0, 1, 2, 3] rfl ?_
      exact jqX6_readClause_101 w tx Q μ htx v1 v2 v3  16  _ h hK
  · have h := go_ifp hc h
    refine go_bipush (v := 15) dX6_readClause_84 (by decide) ?_
    refine go_goto 101 dX6_readClause_86 (by decide) ?_
    refine go_pick [0, 1, 2, 3] rfl ?_
    exact jqX6_readClause_101 w tx Q μ htx v1 v2 v3  15  _ h hK
set_option maxRecDepth 20000 in
set_option maxHeartbeats 4000000 in
theorem jqX6_readClause_183 (w : go_Wd) (tx : Nat) (Q : Option Value → go_M → Prop) (μ : PM) (htx : go_isT tx) (v1 : Int32) (v2 : Int32)    (out : PM) (h : jjX6_readClause_183 tx μ v1 v2  = some out) (hK : Q none (go_mk tx out)) : Go w 541 0 0 mtX6_readClause 183 [(0, .ref 372), (1, .int v1), (2, .int v2)] [] (go_mk tx μ) (go_Z w Q) := by
  unfold jjX6_readClause_183 at h
  refine go_aload_n dX6_readClause_183 0 rfl ?_
  refine go_bipush (v := 20) dX6_readClause_184 (by decide) ?_
  obtain ⟨q12, hq12, h⟩ := go_bind h
  refine pp_callV (as := [.int 20]) (st := []) (rv := none) (μ1 := q12) (st1 := []) dX6_readClause_186 ll_X6_128 sh_372 (by decide) rfl (ctX6_expect  hq12) rfl (Nat.le_of_ble_eq_true rfl) (Nat.le_of_ble_eq_true rfl) (go_Z_up w _) rfl rfl ?_
  refine go_aload_n dX6_readClause_189 0 rfl ?_
  refine go_iconst (v := 0) dX6_readClause_190 (by decide) ?_
  refine go_bipush (v := 9) dX6_readClause_191 (by decide) ?_
  obtain ⟨q13, hq13, h⟩ := go_bind h
  refine pp_callV (as := [.int 0, .int 9]) (st := []) (rv := (some (.int q13.1))) (μ1 := q13.2) (st1 := [.int q13.1]) dX6_readClause_193 ll_X6_131 sh_372 (by decide) rfl (ctX6_takeWithin  hq13) rfl (Nat.le_of_ble_eq_true rfl) (Nat.le_of_ble_eq_true rfl) (go_Z_up w _) rfl rfl ?_
  refine go_istore_n dX6_readClause_196 (by decide) rfl ?_
  show Go w 541 0 0 mtX6_readClause 197 [(3, .int q13.1), (0, .ref 372), (1, .int v1), (2, .int v2)] [] (go_mk tx q13.2) (go_Z w Q)
  refine go_pick [1, 2, 3, 0] rfl ?_
  exact jqX6_readClause_197 w tx Q q13.2 htx v1 v2 q13.1    _ h hK
set_option maxRecDepth 20000 in
set_option maxHeartbeats 4000000 in
theorem cmX6_readClause (w : go_Wd) (tx : Nat) (Q : Option Value → go_M → Prop) (μ : PM) (htx : go_isT tx) (out : PM) (h : fX6_readClause tx μ = some out) (hK : Q none (go_mk tx out)) : Go w 541 0 0 mtX6_readClause 0 [(0, .ref 372)] [] (go_mk tx μ) (go_Z w Q) := by
  unfold fX6_readClause at h
  refine go_aload_n dX6_readClause_0 0 rfl ?_
  refine pp_getI dX6_readClause_1 ff_X6_54 (by decide) sh_372 ?_
  refine go_istore_n dX6_readClause_4 (by decide) rfl ?_
  show Go w 541 0 0 mtX6_readClause 5 [(1, .int (μ.1 372 6)), (0, .ref 372)] [] (go_mk tx μ) (go_Z w Q)
  refine go_iload_n dX6_readClause_5 0 rfl ?_
  refine go_if_lt 15 dX6_readClause_6 (by decide) (fun hc => ?_) (fun hc => ?_)
  · have h := go_ifp hc h
    refine go_pick [1] rfl ?_
    exact jqX6_readClause_15 w tx Q μ htx     _ h hK
  · have h := go_ifn hc h
    refine go_iload_n dX6_readClause_9 0 rfl ?_
    refine go_bipush (v := 10) dX6_readClause_10 (by decide) ?_
    refine go_icmp_le 21 dX6_readClause_12 (by decide) (fun hc => ?_) (fun hc => ?_)
    · have h := go_ifp hc h
      refine go_aload_n dX6_readClause_21 1 rfl ?_
      refine pp_getR dX6_readClause_22 ff_X6_27 (Or.inl ⟨_, rfl⟩) sh_372 go_RF_tx ?_
      refine go_iload_n dX6_readClause_25 0 rfl ?_
      obtain ⟨q2, hq2, h⟩ := go_bind h
      refine pp_callV (as := [.int (μ.1 372 6)]) (st := []) (rv := (some (.int q2))) (μ1 := μ) (st1 := [.int q2]) dX6_readClause_26 ll_X6_102 htx.1 (by decide) rfl (ctX8_hasLaw htx hq2) rfl (Nat.le_of_ble_eq_true rfl) (Nat.le_of_ble_eq_true rfl) (go_Z_up w _) rfl rfl ?_
      refine go_if_eq 38 dX6_readClause_29 (by decide) (fun hc => ?_) (fun hc => ?_)
      · have h := go_ifp hc h
        refine go_aload_n dX6_readClause_38 1 rfl ?_
        refine pp_getR dX6_readClause_39 ff_X6_27 (Or.inl ⟨_, rfl⟩) sh_372 go_RF_tx ?_
        refine pp_getI dX6_readClause_42 ff_X6_105 (by decide) htx.1 ?_
        refine go_bipush (v := 24) dX6_readClause_45 (by decide) ?_
        refine go_icmp_lt 57 dX6_readClause_47 (by decide) (fun hc => ?_) (fun hc => ?_)
        · have h := go_ifp hc h
          refine go_aload_n dX6_readClause_57 1 rfl ?_
          obtain ⟨q3, hq3, h⟩ := go_bind h
          refine pp_callV (as := []) (st := []) (rv := none) (μ1 := q3) (st1 := []) dX6_readClause_58 ll_X6_108 sh_372 (by decide) rfl (ctX6_advance  hq3) rfl (Nat.le_of_ble_eq_true rfl) (Nat.le_of_ble_eq_true rfl) (go_Z_up w _) rfl rfl ?_
          refine go_iconst (v := 0) dX6_readClause_61 (by decide) ?_
          refine go_istore_n dX6_readClause_62 (by decide) rfl ?_
          show Go w 541 0 0 mtX6_readClause 63 [(2, .int 0), (1, .int (μ.1 372 6)), (0, .ref 372)] [] (go_mk tx q3) (go_Z w Q)
          refine go_iconst (v := 0) dX6_readClause_63 (by decide) ?_
          refine go_istore_n dX6_readClause_64 (by decide) rfl ?_
          show Go w 541 0 0 mtX6_readClause 65 [(3, .int 0), (2, .int 0), (1, .int (μ.1 372 6)), (0, .ref 372)] [] (go_mk tx q3) (go_Z w Q)
          refine go_iload_n dX6_readClause_65 2 rfl ?_
          refine go_if_eq 79 dX6_readClause_66 (by decide) (fun hc => ?_) (fun hc => ?_)
          · have h := go_ifp hc h
            refine go_pick [3, 2, 1, 0] rfl ?_
            exact jqX6_readClause_79 w tx Q q3 htx ((μ.1 372 6)) 0 0    _ h hK
          · have h := go_ifn hc h
            refine go_iload_n dX6_readClause_69 2 rfl ?_
            refine go_iconst (v := 1) dX6_readClause_70 (by decide) ?_
            refine go_icmp_eq 79 dX6_readClause_71 (by decide) (fun hc => ?_) (fun hc => ?_)
            · have h := go_ifp hc h
              refine go_pick [3, 2, 1, 0] rfl ?_
              exact jqX6_readClause_79 w tx Q q3 htx ((μ.1 372 6)) 0 0    _ h hK
            · have h := go_ifn hc h
              refine go_iload_n dX6_readClause_74 2 rfl ?_
              refine go_iconst (v := 2) dX6_readClause_75 (by decide) ?_
              refine go_icmp_ne 139 dX6_readClause_76 (by decide) (fun hc => ?_) (fun hc => ?_)
              · have h := go_ifn hc h
                refine go_iload_n dX6_readClause_139 2 rfl ?_
                refine go_iconst (v := 3) dX6_readClause_140 (by decide) ?_
                refine go_icmp_ne 166 dX6_readClause_141 (by decide) (fun hc => ?_) (fun hc => ?_)
                · have h := go_ifn hc h
                  refine go_aload_n dX6_readClause_166 3 rfl ?_
                  refine go_iload_n dX6_readClause_167 2 rfl ?_
                  obtain ⟨q11, hq11, h⟩ := go_bind h
                  refine pp_callV (as := [.int (μ.1 372 6)]) (st := []) (rv := (some (.int q11.1))) (μ1 := q11.2) (st1 := [.int q11.1]) dX6_readClause_168 ll_X6_134 sh_372 (by decide) rfl (ctX6_takeFirst  hq11) rfl (Nat.le_of_ble_eq_true rfl) (Nat.le_of_ble_eq_true rfl) (go_Z_up w _) rfl rfl ?_
                  refine go_istore_n dX6_readClause_171 (by decide) rfl ?_
                  show Go w 541 0 0 mtX6_readClause 172 [(2, .int q11.1), (3, .int 0), (1, .int (μ.1 372 6)), (0, .ref 372)] [] (go_mk tx q11.2) (go_Z w Q)
                  refine go_iload_n dX6_readClause_172 2 rfl ?_
                  refine go_iconst (v := 4) dX6_readClause_173 (by decide) ?_
                  refine go_icmp_eq 183 dX6_readClause_174 (by decide) (fun hc => ?_) (fun hc => ?_)
                  · have h := go_ifp hc h
                    refine go_pick [3, 2, 0] rfl ?_
                    exact jqX6_readClause_183 w tx Q q11.2 htx ((μ.1 372 6)) q11.1    _ h hK
                  · have h := go_ifn hc h
                    refine go_iload_n dX6_readClause_177 2 rfl ?_
                    refine go_bipush (v := 8) dX6_readClause_178 (by decide) ?_
                    refine go_icmp_ne 197 dX6_readClause_180 (by decide) (fun hc => ?_) (fun hc => ?_)
                    · have h := go_ifn hc h
                      refine go_pick [3, 2, 0, 1] rfl ?_
                      exact jqX6_readClause_197 w tx Q q11.2 htx ((μ.1 372 6)) q11.1 0    _ h hK
                    · have h := go_ifp hc h
                      refine go_pick [3, 2, 0] rfl ?_
                      exact jqX6_readClause_183 w tx Q q11.2 htx ((μ.1 372 6)) q11.1    _ h hK
                · have h := go_ifp hc h
                  refine go_aload_n dX6_readClause_144 3 rfl ?_
                  obtain ⟨q14, hq14, h⟩ := go_bind h
                  refine pp_callV (as := []) (st := []) (rv := (some (.int q14.1))) (μ1 := q14.2) (st1 := [.int q14.1]) dX6_readClause_145 ll_X6_125 sh_372 (by decide) rfl (ctX6_takeSounds  hq14) rfl (Nat.le_of_ble_eq_true rfl) (Nat.le_of_ble_eq_true rfl) (go_Z_up w _) rfl rfl ?_
                  refine go_istore_n dX6_readClause_148 (by decide) rfl ?_
                  show Go w 541 0 0 mtX6_readClause 149 [(2, .int q14.1), (3, .int 0), (1, .int (μ.1 372 6)), (0, .ref 372)] [] (go_mk tx q14.2) (go_Z w Q)
                  refine go_aload_n dX6_readClause_149 3 rfl ?_
                  refine go_bipush (v := 19) dX6_readClause_150 (by decide) ?_
                  obtain ⟨q15, hq15, h⟩ := go_bind h
                  refine pp_callV (as := [.int 19]) (st := []) (rv := none) (μ1 := q15) (st1 := []) dX6_readClause_152 ll_X6_128 sh_372 (by decide) rfl (ctX6_expect  hq15) rfl (Nat.le_of_ble_eq_true rfl) (Nat.le_of_ble_eq_true rfl) (go_Z_up w _) rfl rfl ?_
                  refine go_aload_n dX6_readClause_155 3 rfl ?_
                  refine go_iconst (v := 0) dX6_readClause_156 (by decide) ?_
                  refine go_bipush (v := 9) dX6_readClause_157 (by decide) ?_
                  obtain ⟨q16, hq16, h⟩ := go_bind h
                  refine pp_callV (as := [.int 0, .int 9]) (st := []) (rv := (some (.int q16.1))) (μ1 := q16.2) (st1 := [.int q16.1]) dX6_readClause_159 ll_X6_131 sh_372 (by decide) rfl (ctX6_takeWithin  hq16) rfl (Nat.le_of_ble_eq_true rfl) (Nat.le_of_ble_eq_true rfl) (go_Z_up w _) rfl rfl ?_
                  refine go_istore_n dX6_readClause_162 (by decide) rfl ?_
                  show Go w 541 0 0 mtX6_readClause 163 [(3, .int q16.1), (2, .int q14.1), (1, .int (μ.1 372 6)), (0, .ref 372)] [] (go_mk tx q16.2) (go_Z w Q)
                  refine go_goto 197 dX6_readClause_163 (by decide) ?_
                  refine go_pick [3, 2, 1, 0] rfl ?_
                  exact jqX6_readClause_197 w tx Q q16.2 htx ((μ.1 372 6)) q14.1 q16.1    _ h hK
              · have h := go_ifp hc h
                refine go_pick [3, 2, 1, 0] rfl ?_
                exact jqX6_readClause_79 w tx Q q3 htx ((μ.1 372 6)) 0 0    _ h hK
        · have h := go_ifn hc h
          refine go_aload_n dX6_readClause_50 1 rfl ?_
          refine go_bipush (v := 6) dX6_readClause_51 (by decide) ?_
          obtain ⟨q17, hq17, h⟩ := go_bind h
          refine pp_callV (as := [.int 6]) (st := []) (rv := none) (μ1 := q17) (st1 := []) dX6_readClause_53 ll_X6_99 sh_372 (by decide) rfl (ctX6_refuse  hq17) rfl (Nat.le_of_ble_eq_true rfl) (Nat.le_of_ble_eq_true rfl) (go_Z_up w _) rfl rfl ?_
          cases h
          exact go_vret dX6_readClause_56 rfl hK
      · have h := go_ifn hc h
        refine go_aload_n dX6_readClause_32 1 rfl ?_
        refine go_iconst (v := 4) dX6_readClause_33 (by decide) ?_
        obtain ⟨q18, hq18, h⟩ := go_bind h
        refine pp_callV (as := [.int 4]) (st := []) (rv := none) (μ1 := q18) (st1 := []) dX6_readClause_34 ll_X6_99 sh_372 (by decide) rfl (ctX6_refuse  hq18) rfl (Nat.le_of_ble_eq_true rfl) (Nat.le_of_ble_eq_true rfl) (go_Z_up w _) rfl rfl ?_
        cases h
        exact go_vret dX6_readClause_37 rfl hK
    · have h := go_ifn hc h
      refine go_pick [1] rfl ?_
      exact jqX6_readClause_15 w tx Q μ htx     _ h hK
theorem ctX6_readClause {w : go_Wd} {tx : Nat} {μ : PM}  {μ1 : PM} (htx : go_isT tx) (h : fX6_readClause tx μ = some μ1) : Ct w 541 0 0 mtX6_readClause [.ref 372] (go_mk tx μ) (fun r' M' => r' = none ∧ M' = go_mk tx μ1) :=
  go_entry rfl (by decide) (Nat.le_of_ble_eq_true rfl) (cmX6_readClause w tx _ μ htx _ h ⟨rfl, rfl⟩)
def fX7_slotOf (μ : PM) (o : Nat) (a0 : Int32) : Option (Option Nat) :=
  go_let ((jrem ((μ.1 o 1) + a0) 30)) fun x1 => (if x1 < 0 then some (none) else go_chk x1 30 <| some ((some (o + 2 + 5 * x1.toNatClampNeg))))
set_option maxRecDepth 20000 in
set_option maxHeartbeats 4000000 in
theorem cmX7_slotOf (w : go_Wd) (tx : Nat) (Q : Option Value → go_M → Prop) (μ : PM) (o : Nat) (a0 : Int32) (ho : go_isS o) (out : Option Nat) (h : fX7_slotOf μ o a0 = some out) (hK : Q (some (go_on out)) (go_mk tx μ)) : Go w 0 0 0 mtX7_slotOf 0 [(0, .ref o), (1, .int a0)] [] (go_mk tx μ) (go_Z w Q) := by
  unfold fX7_slotOf at h
  refine go_aload_n dX7_slotOf_0 0 rfl ?_
  refine pp_getI dX7_slotOf_1 ff_X7_22 (by decide) ho.1 ?_
  refine go_iload_n dX7_slotOf_4 1 rfl ?_
  refine go_iadd dX7_slotOf_5 ?_
  refine go_bipush (v := 30) dX7_slotOf_6 (by decide) ?_
  refine go_iremJ dX7_slotOf_8 (by decide) ?_
  obtain ⟨x1, hx1, h⟩ := go_let_e h
  refine go_top hx1 ?_
  refine go_istore_n dX7_slotOf_9 (by decide) rfl ?_
  show Go w 0 0 0 mtX7_slotOf 10 [(2, .int x1), (0, .ref o), (1, .int a0)] [] (go_mk tx μ) (go_Z w Q)
  refine go_iload_n dX7_slotOf_10 0 rfl ?_
  refine go_if_lt 23 dX7_slotOf_11 (by decide) (fun hc => ?_) (fun hc => ?_)
  · have h := go_ifp hc h
    refine go_null dX7_slotOf_23 ?_
    cases h
    exact go_aret dX7_slotOf_24 rfl ⟨_, rfl⟩ (Or.inl rfl) hK
  · have h := go_ifn hc h
    refine go_aload_n dX7_slotOf_14 1 rfl ?_
    refine pp_getR dX7_slotOf_15 ff_X7_11 (Or.inr ⟨_, rfl⟩) ho.1 (go_RF_ne ho.2.2.2.1 ho.2.2.1) ?_
    refine go_iload_n dX7_slotOf_18 0 rfl ?_
    obtain ⟨hz2, h⟩ := go_chk_e h
    refine pp_ald dX7_slotOf_19 ho.2.1 (Or.inr rfl) hz2 (go_RF_ne ho.2.2.2.2.1 (ho.2.2.2.2.2 _ (go_in_lt hz2)).1) ?_
    refine go_goto 24 dX7_slotOf_20 (by decide) ?_
    cases h
    exact go_aret dX7_slotOf_24 rfl ⟨_, rfl⟩ (Or.inr ⟨_, rfl⟩) hK
theorem ctX7_slotOf {w : go_Wd} {tx : Nat} {μ : PM} {o : Nat} {a0 : Int32} {r : Option Nat} (ho : go_isS o) (h : fX7_slotOf μ o a0 = some r) : Ct w 0 0 0 mtX7_slotOf [.ref o, .int a0] (go_mk tx μ) (fun r' M' => r' = some (go_on r) ∧ M' = go_mk tx μ) :=
  go_entry rfl (by decide) (Nat.le_of_ble_eq_true rfl) (cmX7_slotOf w tx _ μ o a0 ho _ h ⟨rfl, rfl⟩)
theorem opX7_slotOf {μ : PM} {o : Nat} {a0 : Int32} (ho : go_isS o) {r : Option Nat} (h : fX7_slotOf μ o a0 = some r) : ∀ z, r = some z → go_isW z := by
  intro z hz
  unfold fX7_slotOf at h
  obtain ⟨x1, -, h⟩ := go_let_e h
  by_cases hc : x1 < 0
  · rw [if_pos hc] at h
    cases h
    cases hz
  · rw [if_neg hc] at h
    obtain ⟨hz1, h⟩ := go_chk_e h
    cases h
    cases hz
    exact (ho.2.2.2.2.2 _ (go_in_lt hz1)).2
theorem go_on_or (q : Option Nat) : go_on q = Value.null ∨ ∃ a, go_on q = Value.ref a := by
  rcases q with _ | q
  · exact Or.inl rfl
  · exact Or.inr ⟨_, rfl⟩
def fX10_become (μ : PM) (o : Nat) (a0 : Nat) : PM :=
  go_let (pm_cp μ (a0 + 1) (o + 1) 0 0 6) fun μ1 => go_let (pm_cp μ1 (a0 + 2) (o + 2) 0 0 6) fun μ2 => go_let (pm_cp μ2 (a0 + 3) (o + 3) 0 0 5) fun μ3 => go_let (pm_cp μ3 (a0 + 4) (o + 4) 0 0 30) fun μ4 => go_let (pm_wi μ4 o 4 (μ4.1 a0 4)) fun μ5 => go_let (pm_wi μ5 o 5 (μ5.1 a0 5)) fun μ6 => go_let (pm_wi μ6 o 6 (μ6.1 a0 6)) fun μ7 => go_let (pm_wi μ7 o 7 (μ7.1 a0 7)) fun μ8 => go_let (pm_wi μ8 o 8 (μ8.1 a0 8)) fun μ9 => go_let (pm_wi μ9 o 9 (μ9.1 a0 9)) fun μ10 => go_let (pm_wi μ10 o 10 (μ10.1 a0 10)) fun μ11 => μ11
set_option maxRecDepth 20000 in
set_option maxHeartbeats 4000000 in
theorem cmX10_become (w : go_Wd) (tx : Nat) (Q : Option Value → go_M → Prop) (μ : PM) (o : Nat) (a0 : Nat) (ho : go_isW o) (hk0 : go_isW a0) (out : PM) (h : fX10_become μ o a0 = out) (hK : Q none (go_mk tx out)) : Go w 1 0 0 mtX10_become 0 [(0, .ref o), (1, .ref a0)] [] (go_mk tx μ) (go_Z w Q) := by
  unfold fX10_become at h
  refine go_aload_n dX10_become_0 1 rfl ?_
  refine pp_getR dX10_become_1 ff_X10_9 (Or.inr ⟨_, rfl⟩) hk0.1 (go_RF_ne hk0.2.2.2.2.2.2.2.2.2 hk0.2.2.2.2.2.1) ?_
  refine go_iconst (v := 0) dX10_become_4 (by decide) ?_
  refine go_aload_n dX10_become_5 0 rfl ?_
  refine pp_getR dX10_become_6 ff_X10_9 (Or.inr ⟨_, rfl⟩) ho.1 (go_RF_ne ho.2.2.2.2.2.2.2.2.2 ho.2.2.2.2.2.1) ?_
  refine go_iconst (v := 0) dX10_become_9 (by decide) ?_
  refine go_bipush (v := 6) dX10_become_10 (by decide) ?_
  obtain ⟨μ1, hμ1, h⟩ := go_let_e h
  refine pp_copy (q0 := 0) (q1 := 0) (q2 := 6) dX10_become_12 ac_X10_28 (by decide) (Nat.le_of_ble_eq_true rfl) hk0.2.1 ho.2.1 (by decide) hμ1 ?_
  refine go_aload_n dX10_become_15 1 rfl ?_
  refine pp_getR dX10_become_16 ff_X10_15 (Or.inr ⟨_, rfl⟩) hk0.1 (go_RF_ne hk0.2.2.2.2.2.2.2.2.2 hk0.2.2.2.2.2.2.1) ?_
  refine go_iconst (v := 0) dX10_become_19 (by decide) ?_
  refine go_aload_n dX10_become_20 0 rfl ?_
  refine pp_getR dX10_become_21 ff_X10_15 (Or.inr ⟨_, rfl⟩) ho.1 (go_RF_ne ho.2.2.2.2.2.2.2.2.2 ho.2.2.2.2.2.2.1) ?_
  refine go_iconst (v := 0) dX10_become_24 (by decide) ?_
  refine go_bipush (v := 6) dX10_become_25 (by decide) ?_
  obtain ⟨μ2, hμ2, h⟩ := go_let_e h
  refine pp_copy (q0 := 0) (q1 := 0) (q2 := 6) dX10_become_27 ac_X10_28 (by decide) (Nat.le_of_ble_eq_true rfl) hk0.2.2.1 ho.2.2.1 (by decide) hμ2 ?_
  refine go_aload_n dX10_become_30 1 rfl ?_
  refine pp_getR dX10_become_31 ff_X10_18 (Or.inr ⟨_, rfl⟩) hk0.1 (go_RF_ne hk0.2.2.2.2.2.2.2.2.2 hk0.2.2.2.2.2.2.2.1) ?_
  refine go_iconst (v := 0) dX10_become_34 (by decide) ?_
  refine go_aload_n dX10_become_35 0 rfl ?_
  refine pp_getR dX10_become_36 ff_X10_18 (Or.inr ⟨_, rfl⟩) ho.1 (go_RF_ne ho.2.2.2.2.2.2.2.2.2 ho.2.2.2.2.2.2.2.1) ?_
  refine go_iconst (v := 0) dX10_become_39 (by decide) ?_
  refine go_iconst (v := 5) dX10_become_40 (by decide) ?_
  obtain ⟨μ3, hμ3, h⟩ := go_let_e h
  refine pp_copy (q0 := 0) (q1 := 0) (q2 := 5) dX10_become_41 ac_X10_28 (by decide) (Nat.le_of_ble_eq_true rfl) hk0.2.2.2.1 ho.2.2.2.1 (by decide) hμ3 ?_
  refine go_aload_n dX10_become_44 1 rfl ?_
  refine pp_getR dX10_become_45 ff_X10_21 (Or.inr ⟨_, rfl⟩) hk0.1 (go_RF_ne hk0.2.2.2.2.2.2.2.2.2 hk0.2.2.2.2.2.2.2.2.1) ?_
  refine go_iconst (v := 0) dX10_become_48 (by decide) ?_
  refine go_aload_n dX10_become_49 0 rfl ?_
  refine pp_getR dX10_become_50 ff_X10_21 (Or.inr ⟨_, rfl⟩) ho.1 (go_RF_ne ho.2.2.2.2.2.2.2.2.2 ho.2.2.2.2.2.2.2.2.1) ?_
  refine go_iconst (v := 0) dX10_become_53 (by decide) ?_
  refine go_bipush (v := 30) dX10_become_54 (by decide) ?_
  obtain ⟨μ4, hμ4, h⟩ := go_let_e h
  refine pp_copy (q0 := 0) (q1 := 0) (q2 := 30) dX10_become_56 ac_X10_28 (by decide) (Nat.le_of_ble_eq_true rfl) hk0.2.2.2.2.1 ho.2.2.2.2.1 (by decide) hμ4 ?_
  refine go_aload_n dX10_become_59 0 rfl ?_
  refine go_aload_n dX10_become_60 1 rfl ?_
  refine pp_getI dX10_become_61 ff_X10_34 (by decide) hk0.1 ?_
  obtain ⟨μ5, hμ5, h⟩ := go_let_e h
  refine pp_putI dX10_become_64 ff_X10_34 (Or.inl rfl) ho.1 hμ5 ?_
  refine go_aload_n dX10_become_67 0 rfl ?_
  refine go_aload_n dX10_become_68 1 rfl ?_
  refine pp_getI dX10_become_69 ff_X10_37 (by decide) hk0.1 ?_
  obtain ⟨μ6, hμ6, h⟩ := go_let_e h
  refine pp_putI dX10_become_72 ff_X10_37 (Or.inl rfl) ho.1 hμ6 ?_
  refine go_aload_n dX10_become_75 0 rfl ?_
  refine go_aload_n dX10_become_76 1 rfl ?_
  refine pp_getI dX10_become_77 ff_X10_40 (by decide) hk0.1 ?_
  obtain ⟨μ7, hμ7, h⟩ := go_let_e h
  refine pp_putI dX10_become_80 ff_X10_40 (Or.inl rfl) ho.1 hμ7 ?_
  refine go_aload_n dX10_become_83 0 rfl ?_
  refine go_aload_n dX10_become_84 1 rfl ?_
  refine pp_getI dX10_become_85 ff_X10_43 (by decide) hk0.1 ?_
  obtain ⟨μ8, hμ8, h⟩ := go_let_e h
  refine pp_putI dX10_become_88 ff_X10_43 (Or.inl rfl) ho.1 hμ8 ?_
  refine go_aload_n dX10_become_91 0 rfl ?_
  refine go_aload_n dX10_become_92 1 rfl ?_
  refine pp_getI dX10_become_93 ff_X10_46 (by decide) hk0.1 ?_
  obtain ⟨μ9, hμ9, h⟩ := go_let_e h
  refine pp_putI dX10_become_96 ff_X10_46 (Or.inl rfl) ho.1 hμ9 ?_
  refine go_aload_n dX10_become_99 0 rfl ?_
  refine go_aload_n dX10_become_100 1 rfl ?_
  refine pp_getI dX10_become_101 ff_X10_49 (by decide) hk0.1 ?_
  obtain ⟨μ10, hμ10, h⟩ := go_let_e h
  refine pp_putI dX10_become_104 ff_X10_49 (Or.inl rfl) ho.1 hμ10 ?_
  refine go_aload_n dX10_become_107 0 rfl ?_
  refine go_aload_n dX10_become_108 1 rfl ?_
  refine pp_getI dX10_become_109 ff_X10_24 (by decide) hk0.1 ?_
  obtain ⟨μ11, hμ11, h⟩ := go_let_e h
  refine pp_putI dX10_become_112 ff_X10_24 (Or.inl rfl) ho.1 hμ11 ?_
  subst h
  exact go_vret dX10_become_115 rfl hK
theorem ctX10_become {w : go_Wd} {tx : Nat} {μ : PM} {o : Nat} {a0 : Nat} {μ1 : PM} (ho : go_isW o) (hk0 : go_isW a0) (h : fX10_become μ o a0 = μ1) : Ct w 1 0 0 mtX10_become [.ref o, .ref a0] (go_mk tx μ) (fun r' M' => r' = none ∧ M' = go_mk tx μ1) :=
  go_entry rfl (by decide) (Nat.le_of_ble_eq_true rfl) (cmX10_become w tx _ μ o a0 ho hk0 _ h ⟨rfl, rfl⟩)
def jjX7_keep_46 (μ : PM) (o : Nat) (a0 : Nat)   : Option (PM) :=
  go_let (pm_wi μ o 2 ((μ.1 o 2) + 1)) fun μ3 => some (μ3)
def jjX7_keep_28 (μ : PM) (o : Nat) (a0 : Nat)   : Option (PM) :=
  (fX7_slotOf μ o (μ.1 o 2)).bind fun q1 => go_op q1 (jjX7_keep_46 μ o a0) (fun q2 => go_let (fX10_become μ q2 a0) fun q4 => jjX7_keep_46 q4 o a0)
def fX7_keep (μ : PM) (o : Nat) (a0 : Nat) : Option (PM) :=
  (if (μ.1 o 2) < 30 then jjX7_keep_28 μ o a0 else go_let (pm_wi μ o 1 (jrem ((μ.1 o 1) + 1) 30)) fun μ5 => go_let (pm_wi μ5 o 2 29) fun μ6 => jjX7_keep_28 μ6 o a0)
set_option maxRecDepth 20000 in
set_option maxHeartbeats 4000000 in
theorem jqX7_keep_46 (w : go_Wd) (tx : Nat) (Q : Option Value → go_M → Prop) (μ : PM) (o : Nat) (a0 : Nat) (ho : go_isS o) (hk0 : go_isW a0)     (out : PM) (h : jjX7_keep_46 μ o a0   = some out) (hK : Q none (go_mk tx out)) : Go w 2 0 0 mtX7_keep 46 [(0, .ref o)] [] (go_mk tx μ) (go_Z w Q) := by
  unfold jjX7_keep_46 at h
  refine go_aload_n dX7_keep_46 0 rfl ?_
  refine go_dup dX7_keep_47 rfl ?_
  refine pp_getI dX7_keep_48 ff_X7_18 (by decide) ho.1 ?_
  refine go_iconst (v := 1) dX7_keep_51 (by decide) ?_
  refine go_iadd dX7_keep_52 ?_
  obtain ⟨μ3, hμ3, h⟩ := go_let_e h
  refine pp_putI dX7_keep_53 ff_X7_18 (Or.inl rfl) ho.1 hμ3 ?_
  cases h
  exact go_vret dX7_keep_56 rfl hK
set_option maxRecDepth 20000 in
set_option maxHeartbeats 4000000 in
theorem jqX7_keep_28 (w : go_Wd) (tx : Nat) (Q : Option Value → go_M → Prop) (μ : PM) (o : Nat) (a0 : Nat) (ho : go_isS o) (hk0 : go_isW a0)     (out : PM) (h : jjX7_keep_28 μ o a0   = some out) (hK : Q none (go_mk tx out)) : Go w 2 0 0 mtX7_keep 28 [(0, .ref o), (1, .ref a0)] [] (go_mk tx μ) (go_Z w Q) := by
  unfold jjX7_keep_28 at h
  refine go_aload_n dX7_keep_28 0 rfl ?_
  refine go_aload_n dX7_keep_29 0 rfl ?_
  refine pp_getI dX7_keep_30 ff_X7_18 (by decide) ho.1 ?_
  obtain ⟨q1, hq1, h⟩ := go_bind h
  refine pp_callV (as := [.int (μ.1 o 2)]) (st := []) (rv := (some (go_on q1))) (μ1 := μ) (st1 := [go_on q1]) dX7_keep_33 ll_X7_25 ho.1 (by decide) rfl (ctX7_slotOf ho hq1) rfl (Nat.le_of_ble_eq_true rfl) (Nat.le_of_ble_eq_true rfl) (go_Z_up w _) rfl rfl ?_
  refine go_astoreO dX7_keep_36 (by decide) rfl ?_
  show Go w 2 0 0 mtX7_keep 37 [(2, go_on q1), (0, .ref o), (1, .ref a0)] [] (go_mk tx μ) (go_Z w Q)
  refine go_aloadO dX7_keep_37 0 rfl ?_
  rcases q1 with _ | q2
  · have h := go_opn h
    refine go_ifnullN 46 dX7_keep_38 (by decide) ?_
    refine go_pick [1] rfl ?_
    exact jqX7_keep_46 w tx Q μ o a0 ho hk0     _ h hK
  · have h := go_ops h
    have hq2 := (opX7_slotOf ho hq1) q2 rfl
    refine go_ifnull dX7_keep_38 ?_
    refine go_aload_n dX7_keep_41 0 rfl ?_
    refine go_aload_n dX7_keep_42 2 rfl ?_
    obtain ⟨q4, hq4, h⟩ := go_let_e h
    refine pp_callV (as := [.ref a0]) (st := []) (rv := none) (μ1 := q4) (st1 := []) dX7_keep_43 ll_X7_29 (hq2).1 (by decide) rfl (ctX10_become (hq2) hk0 hq4.symm) rfl (Nat.le_of_ble_eq_true rfl) (Nat.le_of_ble_eq_true rfl) (go_Z_up w _) rfl rfl ?_
    refine go_pick [1] rfl ?_
    exact jqX7_keep_46 w tx Q q4 o a0 ho hk0     _ h hK
set_option maxRecDepth 20000 in
set_option maxHeartbeats 4000000 in
theorem cmX7_keep (w : go_Wd) (tx : Nat) (Q : Option Value → go_M → Prop) (μ : PM) (o : Nat) (a0 : Nat) (ho : go_isS o) (hk0 : go_isW a0) (out : PM) (h : fX7_keep μ o a0 = some out) (hK : Q none (go_mk tx out)) : Go w 2 0 0 mtX7_keep 0 [(0, .ref o), (1, .ref a0)] [] (go_mk tx μ) (go_Z w Q) := by
  unfold fX7_keep at h
  refine go_aload_n dX7_keep_0 0 rfl ?_
  refine pp_getI dX7_keep_1 ff_X7_18 (by decide) ho.1 ?_
  refine go_bipush (v := 30) dX7_keep_4 (by decide) ?_
  refine go_icmp_lt 28 dX7_keep_6 (by decide) (fun hc => ?_) (fun hc => ?_)
  · have h := go_ifp hc h
    refine go_pick [0, 1] rfl ?_
    exact jqX7_keep_28 w tx Q μ o a0 ho hk0     _ h hK
  · have h := go_ifn hc h
    refine go_aload_n dX7_keep_9 0 rfl ?_
    refine go_aload_n dX7_keep_10 0 rfl ?_
    refine pp_getI dX7_keep_11 ff_X7_22 (by decide) ho.1 ?_
    refine go_iconst (v := 1) dX7_keep_14 (by decide) ?_
    refine go_iadd dX7_keep_15 ?_
    refine go_bipush (v := 30) dX7_keep_16 (by decide) ?_
    refine go_iremJ dX7_keep_18 (by decide) ?_
    obtain ⟨μ5, hμ5, h⟩ := go_let_e h
    refine pp_putI dX7_keep_19 ff_X7_22 (Or.inl rfl) ho.1 hμ5 ?_
    refine go_aload_n dX7_keep_22 0 rfl ?_
    refine go_bipush (v := 29) dX7_keep_23 (by decide) ?_
    obtain ⟨μ6, hμ6, h⟩ := go_let_e h
    refine pp_putI dX7_keep_25 ff_X7_18 (Or.inl rfl) ho.1 hμ6 ?_
    refine go_pick [0, 1] rfl ?_
    exact jqX7_keep_28 w tx Q μ6 o a0 ho hk0     _ h hK
theorem ctX7_keep {w : go_Wd} {tx : Nat} {μ : PM} {o : Nat} {a0 : Nat} {μ1 : PM} (ho : go_isS o) (hk0 : go_isW a0) (h : fX7_keep μ o a0 = some μ1) : Ct w 2 0 0 mtX7_keep [.ref o, .ref a0] (go_mk tx μ) (fun r' M' => r' = none ∧ M' = go_mk tx μ1) :=
  go_entry rfl (by decide) (Nat.le_of_ble_eq_true rfl) (cmX7_keep w tx _ μ o a0 ho hk0 _ h ⟨rfl, rfl⟩)
def fX7_takeLatest (μ : PM) (o : Nat) : Option (Option Nat × PM) :=
  (if 0 < (μ.1 o 2) then go_let (pm_wi μ o 2 ((μ.1 o 2) - 1)) fun μ1 => (fX7_slotOf μ1 o (μ1.1 o 2)).bind fun q2 => some ((q2, μ1)) else some ((none, μ)))
set_option maxRecDepth 20000 in
set_option maxHeartbeats 4000000 in
theorem cmX7_takeLatest (w : go_Wd) (tx : Nat) (Q : Option Value → go_M → Prop) (μ : PM) (o : Nat) (ho : go_isS o) (out : Option Nat × PM) (h : fX7_takeLatest μ o = some out) (hK : Q (some (go_on out.1)) (go_mk tx out.2)) : Go w 1 0 0 mtX7_takeLatest 0 [(0, .ref o)] [] (go_mk tx μ) (go_Z w Q) := by
  unfold fX7_takeLatest at h
  refine go_aload_n dX7_takeLatest_0 0 rfl ?_
  refine pp_getI dX7_takeLatest_1 ff_X7_18 (by decide) ho.1 ?_
  refine go_if_gt 9 dX7_takeLatest_4 (by decide) (fun hc => ?_) (fun hc => ?_)
  · have h := go_ifp hc h
    refine go_aload_n dX7_takeLatest_9 0 rfl ?_
    refine go_dup dX7_takeLatest_10 rfl ?_
    refine pp_getI dX7_takeLatest_11 ff_X7_18 (by decide) ho.1 ?_
    refine go_iconst (v := 1) dX7_takeLatest_14 (by decide) ?_
    refine go_isub dX7_takeLatest_15 ?_
    obtain ⟨μ1, hμ1, h⟩ := go_let_e h
    refine pp_putI dX7_takeLatest_16 ff_X7_18 (Or.inl rfl) ho.1 hμ1 ?_
    refine go_aload_n dX7_takeLatest_19 0 rfl ?_
    refine go_aload_n dX7_takeLatest_20 0 rfl ?_
    refine pp_getI dX7_takeLatest_21 ff_X7_18 (by decide) ho.1 ?_
    obtain ⟨q2, hq2, h⟩ := go_bind h
    refine pp_callV (as := [.int (μ1.1 o 2)]) (st := []) (rv := (some (go_on q2))) (μ1 := μ1) (st1 := [go_on q2]) dX7_takeLatest_24 ll_X7_25 ho.1 (by decide) rfl (ctX7_slotOf ho hq2) rfl (Nat.le_of_ble_eq_true rfl) (Nat.le_of_ble_eq_true rfl) (go_Z_up w _) rfl rfl ?_
    cases h
    exact go_aret dX7_takeLatest_27 rfl ⟨_, rfl⟩ (go_on_or _) hK
  · have h := go_ifn hc h
    refine go_null dX7_takeLatest_7 ?_
    cases h
    exact go_aret dX7_takeLatest_8 rfl ⟨_, rfl⟩ (Or.inl rfl) hK
theorem ctX7_takeLatest {w : go_Wd} {tx : Nat} {μ : PM} {o : Nat} {r : Option Nat} {μ1 : PM} (ho : go_isS o) (h : fX7_takeLatest μ o = some (r, μ1)) : Ct w 1 0 0 mtX7_takeLatest [.ref o] (go_mk tx μ) (fun r' M' => r' = some (go_on r) ∧ M' = go_mk tx μ1) :=
  go_entry rfl (by decide) (Nat.le_of_ble_eq_true rfl) (cmX7_takeLatest w tx _ μ o ho _ h ⟨rfl, rfl⟩)
theorem opX7_takeLatest {μ : PM} {o : Nat} (ho : go_isS o) {q : Option Nat × PM} (h : fX7_takeLatest μ o = some q) : ∀ z, q.1 = some z → go_isW z := by
  intro z hz
  unfold fX7_takeLatest at h
  by_cases hc : 0 < (μ.1 o 2)
  · rw [if_pos hc] at h
    obtain ⟨μ1, -, h⟩ := go_let_e h
    obtain ⟨q2, hq2, h⟩ := go_bind h
    cases h
    exact opX7_slotOf ho hq2 z hz
  · rw [if_neg hc] at h
    cases h
    cases hz
def lbX7_become_2 (o : Nat) (a0 : Nat)  (v2 : Int32) (μ : PM) : Option ((Int32 × PM) ⊕ ((PM) ⊕ (PM))) :=
  (if (μ.1 a0 2) ≤ v2 then some (.inr (.inl μ)) else (if 30 ≤ v2 then some (.inr (.inl μ)) else (fX7_slotOf μ a0 v2).bind fun q1 => go_chk v2 30 <| go_op q1 (some (.inl ((v2 + 1), μ))) (fun q3 => go_let (fX10_become μ (o + 2 + 5 * v2.toNatClampNeg) q3) fun q4 => some (.inl ((v2 + 1), q4)))))
def jjX7_become_51 (μ : PM) (o : Nat) (a0 : Nat)   : Option (PM) :=
  go_let (pm_wi μ o 1 0) fun μ7 => go_let (pm_wi μ7 o 2 (μ7.1 a0 2)) fun μ8 => some (μ8)
def fX7_become (μ : PM) (o : Nat) (a0 : Nat) : Option (PM) :=
  ((lp (fun s => lbX7_become_2 o a0 s.1 s.2) go_fuel (0, μ)).bind fun ρ5 => go_cs ρ5 (fun e6 => jjX7_become_51 e6 o a0) (fun y => some y))
def ggX7_become_2 (w : go_Wd) (tx : Nat) (Q : Option Value → go_M → Prop) (o : Nat) (a0 : Nat)  (s : Int32 × PM) : Prop := Go w 2 0 0 mtX7_become 2 [(0, .ref o), (1, .ref a0), (2, .int s.1)] [] (go_mk tx s.2) (go_Z w Q)
def eeX7_become_2 (w : go_Wd) (tx : Nat) (Q : Option Value → go_M → Prop) (o : Nat) (a0 : Nat)  : (PM) ⊕ (PM) → Prop
  | .inl e => Go w 2 0 0 mtX7_become 51 [(0, .ref o), (1, .ref a0)] [] (go_mk tx e) (go_Z w Q)
  | .inr y => Q none (go_mk tx y)
set_option maxRecDepth 20000 in
set_option maxHeartbeats 4000000 in
theorem lqX7_become_2 (w : go_Wd) (tx : Nat) (Q : Option Value → go_M → Prop) (o : Nat) (a0 : Nat) (ho : go_isS o) (hk0 : go_isS a0)   (v2 : Int32) (μ : PM) (out : (Int32 × PM) ⊕ ((PM) ⊕ (PM))) (h : lbX7_become_2 o a0  v2 μ = some out) (hK : go_out (ggX7_become_2 w tx Q o a0 ) (eeX7_become_2 w tx Q o a0 ) out) : ggX7_become_2 w tx Q o a0  (v2, μ) := by
  unfold lbX7_become_2 at h
  show Go w 2 0 0 mtX7_become 2 [(0, .ref o), (1, .ref a0), (2, .int v2)] [] (go_mk tx μ) (go_Z w Q)
  refine go_iload_n dX7_become_2 2 rfl ?_
  refine go_aload_n dX7_become_3 1 rfl ?_
  refine pp_getI dX7_become_4 ff_X7_18 (by decide) hk0.1 ?_
  refine go_icmp_ge 51 dX7_become_7 (by decide) (fun hc => ?_) (fun hc => ?_)
  · have h := go_ifp hc h
    cases h
    have hK : Go w 2 0 0 mtX7_become 51 [(0, .ref o), (1, .ref a0)] [] (go_mk tx μ) (go_Z w Q) := hK
    exact go_pick [0, 1] rfl hK
  · have h := go_ifn hc h
    refine go_iload_n dX7_become_10 2 rfl ?_
    refine go_bipush (v := 30) dX7_become_11 (by decide) ?_
    refine go_icmp_ge 51 dX7_become_13 (by decide) (fun hc => ?_) (fun hc => ?_)
    · have h := go_ifp hc h
      cases h
      have hK : Go w 2 0 0 mtX7_become 51 [(0, .ref o), (1, .ref a0)] [] (go_mk tx μ) (go_Z w Q) := hK
      exact go_pick [0, 1] rfl hK
    · have h := go_ifn hc h
      refine go_aload_n dX7_become_16 1 rfl ?_
      refine go_iload_n dX7_become_17 2 rfl ?_
      obtain ⟨q1, hq1, h⟩ := go_bind h
      refine pp_callV (as := [.int v2]) (st := []) (rv := (some (go_on q1))) (μ1 := μ) (st1 := [go_on q1]) dX7_become_18 ll_X7_25 hk0.1 (by decide) rfl (ctX7_slotOf hk0 hq1) rfl (Nat.le_of_ble_eq_true rfl) (Nat.le_of_ble_eq_true rfl) (go_Z_up w _) rfl rfl ?_
      refine go_astoreO dX7_become_21 (by decide) rfl ?_
      show Go w 2 0 0 mtX7_become 22 [(3, go_on q1), (0, .ref o), (1, .ref a0), (2, .int v2)] [] (go_mk tx μ) (go_Z w Q)
      refine go_aload_n dX7_become_22 1 rfl ?_
      refine pp_getR dX7_become_23 ff_X7_11 (Or.inr ⟨_, rfl⟩) ho.1 (go_RF_ne ho.2.2.2.1 ho.2.2.1) ?_
      refine go_iload_n dX7_become_26 3 rfl ?_
      obtain ⟨hz2, h⟩ := go_chk_e h
      refine pp_ald dX7_become_27 ho.2.1 (Or.inr rfl) hz2 (go_RF_ne ho.2.2.2.2.1 (ho.2.2.2.2.2 _ (go_in_lt hz2)).1) ?_
      refine go_astore (lv' := [(4, .ref (o + 2 + 5 * v2.toNatClampNeg)), (3, go_on q1), (0, .ref o), (1, .ref a0), (2, .int v2)]) dX7_become_28 (by decide) (by cases q1 <;> rfl) ?_
      show Go w 2 0 0 mtX7_become 30 [(4, .ref (o + 2 + 5 * v2.toNatClampNeg)), (3, go_on q1), (0, .ref o), (1, .ref a0), (2, .int v2)] [] (go_mk tx μ) (go_Z w Q)
      refine go_aloadO dX7_become_30 1 rfl ?_
      rcases q1 with _ | q3
      · have h := go_opn h
        refine go_ifnullN 45 dX7_become_31 (by decide) ?_
        refine go_iinc (v := (v2 + 1)) dX7_become_45 4 rfl rfl (by decide) rfl ?_
        show Go w 2 0 0 mtX7_become 48 [(2, .int (v2 + 1)), (4, .ref (o + 2 + 5 * v2.toNatClampNeg)), (3, .null), (0, .ref o), (1, .ref a0)] [] (go_mk tx μ) (go_Z w Q)
        refine go_goto 2 dX7_become_48 (by decide) ?_
        cases h
        have hK : Go w 2 0 0 mtX7_become 2 [(0, .ref o), (1, .ref a0), (2, .int (v2 + 1))] [] (go_mk tx μ) (go_Z w Q) := hK
        exact go_pick [3, 4, 0] rfl hK
      · have h := go_ops h
        have hq3 := (opX7_slotOf hk0 hq1) q3 rfl
        refine go_ifnull dX7_become_31 ?_
        refine go_aload dX7_become_34 0 rfl ?_
        refine go_ifnull dX7_become_36 ?_
        refine go_aload dX7_become_39 0 rfl ?_
        refine go_aload_n dX7_become_41 1 rfl ?_
        obtain ⟨q4, hq4, h⟩ := go_let_e h
        refine pp_callV (as := [.ref q3]) (st := []) (rv := none) (μ1 := q4) (st1 := []) dX7_become_42 ll_X7_29 (ho.2.2.2.2.2 _ (go_in_lt hz2)).2.1 (by decide) rfl (ctX10_become (ho.2.2.2.2.2 _ (go_in_lt hz2)).2 (hq3) hq4.symm) rfl (Nat.le_of_ble_eq_true rfl) (Nat.le_of_ble_eq_true rfl) (go_Z_up w _) rfl rfl ?_
        refine go_iinc (v := (v2 + 1)) dX7_become_45 4 rfl rfl (by decide) rfl ?_
        show Go w 2 0 0 mtX7_become 48 [(2, .int (v2 + 1)), (4, .ref (o + 2 + 5 * v2.toNatClampNeg)), (3, .ref q3), (0, .ref o), (1, .ref a0)] [] (go_mk tx q4) (go_Z w Q)
        refine go_goto 2 dX7_become_48 (by decide) ?_
        cases h
        have hK : Go w 2 0 0 mtX7_become 2 [(0, .ref o), (1, .ref a0), (2, .int (v2 + 1))] [] (go_mk tx q4) (go_Z w Q) := hK
        exact go_pick [3, 4, 0] rfl hK
set_option maxRecDepth 20000 in
set_option maxHeartbeats 4000000 in
theorem jqX7_become_51 (w : go_Wd) (tx : Nat) (Q : Option Value → go_M → Prop) (μ : PM) (o : Nat) (a0 : Nat) (ho : go_isS o) (hk0 : go_isS a0)     (out : PM) (h : jjX7_become_51 μ o a0   = some out) (hK : Q none (go_mk tx out)) : Go w 2 0 0 mtX7_become 51 [(0, .ref o), (1, .ref a0)] [] (go_mk tx μ) (go_Z w Q) := by
  unfold jjX7_become_51 at h
  refine go_aload_n dX7_become_51 0 rfl ?_
  refine go_iconst (v := 0) dX7_become_52 (by decide) ?_
  obtain ⟨μ7, hμ7, h⟩ := go_let_e h
  refine pp_putI dX7_become_53 ff_X7_22 (Or.inl rfl) ho.1 hμ7 ?_
  refine go_aload_n dX7_become_56 0 rfl ?_
  refine go_aload_n dX7_become_57 1 rfl ?_
  refine pp_getI dX7_become_58 ff_X7_18 (by decide) hk0.1 ?_
  obtain ⟨μ8, hμ8, h⟩ := go_let_e h
  refine pp_putI dX7_become_61 ff_X7_18 (Or.inl rfl) ho.1 hμ8 ?_
  cases h
  exact go_vret dX7_become_64 rfl hK
set_option maxRecDepth 20000 in
set_option maxHeartbeats 4000000 in
theorem cmX7_become (w : go_Wd) (tx : Nat) (Q : Option Value → go_M → Prop) (μ : PM) (o : Nat) (a0 : Nat) (ho : go_isS o) (hk0 : go_isS a0) (out : PM) (h : fX7_become μ o a0 = some out) (hK : Q none (go_mk tx out)) : Go w 2 0 0 mtX7_become 0 [(0, .ref o), (1, .ref a0)] [] (go_mk tx μ) (go_Z w Q) := by
  unfold fX7_become at h
  refine go_iconst (v := 0) dX7_become_0 (by decide) ?_
  refine go_istore_n dX7_become_1 (by decide) rfl ?_
  show Go w 2 0 0 mtX7_become 2 [(2, .int 0), (0, .ref o), (1, .ref a0)] [] (go_mk tx μ) (go_Z w Q)
  obtain ⟨ρ5, hρ5, h⟩ := go_bind h
  refine go_pick [1, 2, 0] rfl ?_
  refine go_lp (G := ggX7_become_2 w tx Q o a0 ) (E := eeX7_become_2 w tx Q o a0 ) (fun s out h hK => lqX7_become_2 w tx Q o a0 ho hk0   s.1 s.2 out h hK) go_fuel (0, μ) ρ5 hρ5 ?_
  rcases ρ5 with e6 | y
  · have h := go_csl h
    show Go w 2 0 0 mtX7_become 51 [(0, .ref o), (1, .ref a0)] [] (go_mk tx e6) (go_Z w Q)
    refine go_pick [0, 1] rfl ?_
    exact jqX7_become_51 w tx Q e6 o a0 ho hk0     _ h hK
  · have h := go_csr h
    cases h
    exact hK
theorem ctX7_become {w : go_Wd} {tx : Nat} {μ : PM} {o : Nat} {a0 : Nat} {μ1 : PM} (ho : go_isS o) (hk0 : go_isS a0) (h : fX7_become μ o a0 = some μ1) : Ct w 2 0 0 mtX7_become [.ref o, .ref a0] (go_mk tx μ) (fun r' M' => r' = none ∧ M' = go_mk tx μ1) :=
  go_entry rfl (by decide) (Nat.le_of_ble_eq_true rfl) (cmX7_become w tx _ μ o a0 ho hk0 _ h ⟨rfl, rfl⟩)
def fX9_become (μ : PM) (o : Nat) (a0 : Nat) : Option (PM) :=
  go_let (pm_cp μ (a0 + 1) (o + 1) 0 0 6) fun μ1 => go_let (pm_cp μ1 (a0 + 2) (o + 2) 0 0 6) fun μ2 => go_let (pm_cp μ2 (a0 + 3) (o + 3) 0 0 5) fun μ3 => go_let (pm_cp μ3 (a0 + 4) (o + 4) 0 0 5) fun μ4 => go_let (pm_cp μ4 (a0 + 5) (o + 5) 0 0 30) fun μ5 => go_let (pm_cp μ5 (a0 + 6) (o + 6) 0 0 30) fun μ6 => go_let (pm_cp μ6 (a0 + 7) (o + 7) 0 0 5) fun μ7 => go_let (pm_cp μ7 (a0 + 8) (o + 8) 0 0 8) fun μ8 => go_let (pm_cp μ8 (a0 + 9) (o + 9) 0 0 8) fun μ9 => go_let (pm_cp μ9 (a0 + 10) (o + 10) 0 0 8) fun μ10 => go_let (fX10_become μ10 (o + 11) (a0 + 11)) fun q11 => (fX7_become q11 (o + 16) (a0 + 16)).bind fun q12 => go_let (pm_wi q12 o 12 (q12.1 a0 12)) fun μ13 => go_let (pm_wi μ13 o 13 (μ13.1 a0 13)) fun μ14 => go_let (pm_wi μ14 o 14 (μ14.1 a0 14)) fun μ15 => go_let (pm_wi μ15 o 15 (μ15.1 a0 15)) fun μ16 => go_let (pm_wi μ16 o 16 (μ16.1 a0 16)) fun μ17 => go_let (pm_wi μ17 o 17 (μ17.1 a0 17)) fun μ18 => some (μ18)
set_option maxRecDepth 20000 in
set_option maxHeartbeats 4000000 in
theorem cmX9_become (w : go_Wd) (tx : Nat) (Q : Option Value → go_M → Prop) (μ : PM) (o : Nat) (a0 : Nat) (ho : go_isV o) (hk0 : go_isV a0) (out : PM) (h : fX9_become μ o a0 = some out) (hK : Q none (go_mk tx out)) : Go w 3 0 0 mtX9_become 0 [(0, .ref o), (1, .ref a0)] [] (go_mk tx μ) (go_Z w Q) := by
  unfold fX9_become at h
  refine go_aload_n dX9_become_0 1 rfl ?_
  refine pp_getR dX9_become_1 ff_X9_9 (Or.inr ⟨_, rfl⟩) hk0.1 (go_RF_ne hk0.2.2.2.2.2.2.2.2.2.2.2.2.2.2.2 ((hk0.2.2.2.2.2.2.2.2.2.2.2.2.2.1 0 (by decide)).trans rfl)) ?_
  refine go_iconst (v := 0) dX9_become_4 (by decide) ?_
  refine go_aload_n dX9_become_5 0 rfl ?_
  refine pp_getR dX9_become_6 ff_X9_9 (Or.inr ⟨_, rfl⟩) ho.1 (go_RF_ne ho.2.2.2.2.2.2.2.2.2.2.2.2.2.2.2 ((ho.2.2.2.2.2.2.2.2.2.2.2.2.2.1 0 (by decide)).trans rfl)) ?_
  refine go_iconst (v := 0) dX9_become_9 (by decide) ?_
  refine go_bipush (v := 6) dX9_become_10 (by decide) ?_
  obtain ⟨μ1, hμ1, h⟩ := go_let_e h
  refine pp_copy (q0 := 0) (q1 := 0) (q2 := 6) dX9_become_12 ac_X9_69 (by decide) (Nat.le_of_ble_eq_true rfl) hk0.2.2.2.1 ho.2.2.2.1 (by decide) hμ1 ?_
  refine go_aload_n dX9_become_15 1 rfl ?_
  refine pp_getR dX9_become_16 ff_X9_15 (Or.inr ⟨_, rfl⟩) hk0.1 (go_RF_ne hk0.2.2.2.2.2.2.2.2.2.2.2.2.2.2.2 ((hk0.2.2.2.2.2.2.2.2.2.2.2.2.2.1 1 (by decide)).trans rfl)) ?_
  refine go_iconst (v := 0) dX9_become_19 (by decide) ?_
  refine go_aload_n dX9_become_20 0 rfl ?_
  refine pp_getR dX9_become_21 ff_X9_15 (Or.inr ⟨_, rfl⟩) ho.1 (go_RF_ne ho.2.2.2.2.2.2.2.2.2.2.2.2.2.2.2 ((ho.2.2.2.2.2.2.2.2.2.2.2.2.2.1 1 (by decide)).trans rfl)) ?_
  refine go_iconst (v := 0) dX9_become_24 (by decide) ?_
  refine go_bipush (v := 6) dX9_become_25 (by decide) ?_
  obtain ⟨μ2, hμ2, h⟩ := go_let_e h
  refine pp_copy (q0 := 0) (q1 := 0) (q2 := 6) dX9_become_27 ac_X9_69 (by decide) (Nat.le_of_ble_eq_true rfl) hk0.2.2.2.2.1 ho.2.2.2.2.1 (by decide) hμ2 ?_
  refine go_aload_n dX9_become_30 1 rfl ?_
  refine pp_getR dX9_become_31 ff_X9_18 (Or.inr ⟨_, rfl⟩) hk0.1 (go_RF_ne hk0.2.2.2.2.2.2.2.2.2.2.2.2.2.2.2 ((hk0.2.2.2.2.2.2.2.2.2.2.2.2.2.1 2 (by decide)).trans rfl)) ?_
  refine go_iconst (v := 0) dX9_become_34 (by decide) ?_
  refine go_aload_n dX9_become_35 0 rfl ?_
  refine pp_getR dX9_become_36 ff_X9_18 (Or.inr ⟨_, rfl⟩) ho.1 (go_RF_ne ho.2.2.2.2.2.2.2.2.2.2.2.2.2.2.2 ((ho.2.2.2.2.2.2.2.2.2.2.2.2.2.1 2 (by decide)).trans rfl)) ?_
  refine go_iconst (v := 0) dX9_become_39 (by decide) ?_
  refine go_iconst (v := 5) dX9_become_40 (by decide) ?_
  obtain ⟨μ3, hμ3, h⟩ := go_let_e h
  refine pp_copy (q0 := 0) (q1 := 0) (q2 := 5) dX9_become_41 ac_X9_69 (by decide) (Nat.le_of_ble_eq_true rfl) hk0.2.2.2.2.2.1 ho.2.2.2.2.2.1 (by decide) hμ3 ?_
  refine go_aload_n dX9_become_44 1 rfl ?_
  refine pp_getR dX9_become_45 ff_X9_21 (Or.inr ⟨_, rfl⟩) hk0.1 (go_RF_ne hk0.2.2.2.2.2.2.2.2.2.2.2.2.2.2.2 ((hk0.2.2.2.2.2.2.2.2.2.2.2.2.2.1 3 (by decide)).trans rfl)) ?_
  refine go_iconst (v := 0) dX9_become_48 (by decide) ?_
  refine go_aload_n dX9_become_49 0 rfl ?_
  refine pp_getR dX9_become_50 ff_X9_21 (Or.inr ⟨_, rfl⟩) ho.1 (go_RF_ne ho.2.2.2.2.2.2.2.2.2.2.2.2.2.2.2 ((ho.2.2.2.2.2.2.2.2.2.2.2.2.2.1 3 (by decide)).trans rfl)) ?_
  refine go_iconst (v := 0) dX9_become_53 (by decide) ?_
  refine go_iconst (v := 5) dX9_become_54 (by decide) ?_
  obtain ⟨μ4, hμ4, h⟩ := go_let_e h
  refine pp_copy (q0 := 0) (q1 := 0) (q2 := 5) dX9_become_55 ac_X9_69 (by decide) (Nat.le_of_ble_eq_true rfl) hk0.2.2.2.2.2.2.1 ho.2.2.2.2.2.2.1 (by decide) hμ4 ?_
  refine go_aload_n dX9_become_58 1 rfl ?_
  refine pp_getR dX9_become_59 ff_X9_24 (Or.inr ⟨_, rfl⟩) hk0.1 (go_RF_ne hk0.2.2.2.2.2.2.2.2.2.2.2.2.2.2.2 ((hk0.2.2.2.2.2.2.2.2.2.2.2.2.2.1 4 (by decide)).trans rfl)) ?_
  refine go_iconst (v := 0) dX9_become_62 (by decide) ?_
  refine go_aload_n dX9_become_63 0 rfl ?_
  refine pp_getR dX9_become_64 ff_X9_24 (Or.inr ⟨_, rfl⟩) ho.1 (go_RF_ne ho.2.2.2.2.2.2.2.2.2.2.2.2.2.2.2 ((ho.2.2.2.2.2.2.2.2.2.2.2.2.2.1 4 (by decide)).trans rfl)) ?_
  refine go_iconst (v := 0) dX9_become_67 (by decide) ?_
  refine go_bipush (v := 30) dX9_become_68 (by decide) ?_
  obtain ⟨μ5, hμ5, h⟩ := go_let_e h
  refine pp_copy (q0 := 0) (q1 := 0) (q2 := 30) dX9_become_70 ac_X9_69 (by decide) (Nat.le_of_ble_eq_true rfl) hk0.2.2.2.2.2.2.2.1 ho.2.2.2.2.2.2.2.1 (by decide) hμ5 ?_
  refine go_aload_n dX9_become_73 1 rfl ?_
  refine pp_getR dX9_become_74 ff_X9_27 (Or.inr ⟨_, rfl⟩) hk0.1 (go_RF_ne hk0.2.2.2.2.2.2.2.2.2.2.2.2.2.2.2 ((hk0.2.2.2.2.2.2.2.2.2.2.2.2.2.1 5 (by decide)).trans rfl)) ?_
  refine go_iconst (v := 0) dX9_become_77 (by decide) ?_
  refine go_aload_n dX9_become_78 0 rfl ?_
  refine pp_getR dX9_become_79 ff_X9_27 (Or.inr ⟨_, rfl⟩) ho.1 (go_RF_ne ho.2.2.2.2.2.2.2.2.2.2.2.2.2.2.2 ((ho.2.2.2.2.2.2.2.2.2.2.2.2.2.1 5 (by decide)).trans rfl)) ?_
  refine go_iconst (v := 0) dX9_become_82 (by decide) ?_
  refine go_bipush (v := 30) dX9_become_83 (by decide) ?_
  obtain ⟨μ6, hμ6, h⟩ := go_let_e h
  refine pp_copy (q0 := 0) (q1 := 0) (q2 := 30) dX9_become_85 ac_X9_69 (by decide) (Nat.le_of_ble_eq_true rfl) hk0.2.2.2.2.2.2.2.2.1 ho.2.2.2.2.2.2.2.2.1 (by decide) hμ6 ?_
  refine go_aload_n dX9_become_88 1 rfl ?_
  refine pp_getR dX9_become_89 ff_X9_30 (Or.inr ⟨_, rfl⟩) hk0.1 (go_RF_ne hk0.2.2.2.2.2.2.2.2.2.2.2.2.2.2.2 ((hk0.2.2.2.2.2.2.2.2.2.2.2.2.2.1 6 (by decide)).trans rfl)) ?_
  refine go_iconst (v := 0) dX9_become_92 (by decide) ?_
  refine go_aload_n dX9_become_93 0 rfl ?_
  refine pp_getR dX9_become_94 ff_X9_30 (Or.inr ⟨_, rfl⟩) ho.1 (go_RF_ne ho.2.2.2.2.2.2.2.2.2.2.2.2.2.2.2 ((ho.2.2.2.2.2.2.2.2.2.2.2.2.2.1 6 (by decide)).trans rfl)) ?_
  refine go_iconst (v := 0) dX9_become_97 (by decide) ?_
  refine go_iconst (v := 5) dX9_become_98 (by decide) ?_
  obtain ⟨μ7, hμ7, h⟩ := go_let_e h
  refine pp_copy (q0 := 0) (q1 := 0) (q2 := 5) dX9_become_99 ac_X9_69 (by decide) (Nat.le_of_ble_eq_true rfl) hk0.2.2.2.2.2.2.2.2.2.1 ho.2.2.2.2.2.2.2.2.2.1 (by decide) hμ7 ?_
  refine go_aload_n dX9_become_102 1 rfl ?_
  refine pp_getR dX9_become_103 ff_X9_33 (Or.inr ⟨_, rfl⟩) hk0.1 (go_RF_ne hk0.2.2.2.2.2.2.2.2.2.2.2.2.2.2.2 ((hk0.2.2.2.2.2.2.2.2.2.2.2.2.2.1 7 (by decide)).trans rfl)) ?_
  refine go_iconst (v := 0) dX9_become_106 (by decide) ?_
  refine go_aload_n dX9_become_107 0 rfl ?_
  refine pp_getR dX9_become_108 ff_X9_33 (Or.inr ⟨_, rfl⟩) ho.1 (go_RF_ne ho.2.2.2.2.2.2.2.2.2.2.2.2.2.2.2 ((ho.2.2.2.2.2.2.2.2.2.2.2.2.2.1 7 (by decide)).trans rfl)) ?_
  refine go_iconst (v := 0) dX9_become_111 (by decide) ?_
  refine go_bipush (v := 8) dX9_become_112 (by decide) ?_
  obtain ⟨μ8, hμ8, h⟩ := go_let_e h
  refine pp_copy (q0 := 0) (q1 := 0) (q2 := 8) dX9_become_114 ac_X9_69 (by decide) (Nat.le_of_ble_eq_true rfl) hk0.2.2.2.2.2.2.2.2.2.2.1 ho.2.2.2.2.2.2.2.2.2.2.1 (by decide) hμ8 ?_
  refine go_aload_n dX9_become_117 1 rfl ?_
  refine pp_getR dX9_become_118 ff_X9_36 (Or.inr ⟨_, rfl⟩) hk0.1 (go_RF_ne hk0.2.2.2.2.2.2.2.2.2.2.2.2.2.2.2 ((hk0.2.2.2.2.2.2.2.2.2.2.2.2.2.1 8 (by decide)).trans rfl)) ?_
  refine go_iconst (v := 0) dX9_become_121 (by decide) ?_
  refine go_aload_n dX9_become_122 0 rfl ?_
  refine pp_getR dX9_become_123 ff_X9_36 (Or.inr ⟨_, rfl⟩) ho.1 (go_RF_ne ho.2.2.2.2.2.2.2.2.2.2.2.2.2.2.2 ((ho.2.2.2.2.2.2.2.2.2.2.2.2.2.1 8 (by decide)).trans rfl)) ?_
  refine go_iconst (v := 0) dX9_become_126 (by decide) ?_
  refine go_bipush (v := 8) dX9_become_127 (by decide) ?_
  obtain ⟨μ9, hμ9, h⟩ := go_let_e h
  refine pp_copy (q0 := 0) (q1 := 0) (q2 := 8) dX9_become_129 ac_X9_69 (by decide) (Nat.le_of_ble_eq_true rfl) hk0.2.2.2.2.2.2.2.2.2.2.2.1 ho.2.2.2.2.2.2.2.2.2.2.2.1 (by decide) hμ9 ?_
  refine go_aload_n dX9_become_132 1 rfl ?_
  refine pp_getR dX9_become_133 ff_X9_39 (Or.inr ⟨_, rfl⟩) hk0.1 (go_RF_ne hk0.2.2.2.2.2.2.2.2.2.2.2.2.2.2.2 ((hk0.2.2.2.2.2.2.2.2.2.2.2.2.2.1 9 (by decide)).trans rfl)) ?_
  refine go_iconst (v := 0) dX9_become_136 (by decide) ?_
  refine go_aload_n dX9_become_137 0 rfl ?_
  refine pp_getR dX9_become_138 ff_X9_39 (Or.inr ⟨_, rfl⟩) ho.1 (go_RF_ne ho.2.2.2.2.2.2.2.2.2.2.2.2.2.2.2 ((ho.2.2.2.2.2.2.2.2.2.2.2.2.2.1 9 (by decide)).trans rfl)) ?_
  refine go_iconst (v := 0) dX9_become_141 (by decide) ?_
  refine go_bipush (v := 8) dX9_become_142 (by decide) ?_
  obtain ⟨μ10, hμ10, h⟩ := go_let_e h
  refine pp_copy (q0 := 0) (q1 := 0) (q2 := 8) dX9_become_144 ac_X9_69 (by decide) (Nat.le_of_ble_eq_true rfl) hk0.2.2.2.2.2.2.2.2.2.2.2.2.1 ho.2.2.2.2.2.2.2.2.2.2.2.2.1 (by decide) hμ10 ?_
  refine go_aload_n dX9_become_147 0 rfl ?_
  refine pp_getR dX9_become_148 ff_X9_45 (Or.inl ⟨_, rfl⟩) ho.1 (go_RF_ne ho.2.2.2.2.2.2.2.2.2.2.2.2.2.2.2 ((ho.2.2.2.2.2.2.2.2.2.2.2.2.2.1 10 (by decide)).trans rfl)) ?_
  refine go_aload_n dX9_become_151 1 rfl ?_
  refine pp_getR dX9_become_152 ff_X9_45 (Or.inl ⟨_, rfl⟩) hk0.1 (go_RF_ne hk0.2.2.2.2.2.2.2.2.2.2.2.2.2.2.2 ((hk0.2.2.2.2.2.2.2.2.2.2.2.2.2.1 10 (by decide)).trans rfl)) ?_
  obtain ⟨q11, hq11, h⟩ := go_let_e h
  refine pp_callV (as := [.ref (a0 + 11)]) (st := []) (rv := none) (μ1 := q11) (st1 := []) dX9_become_155 ll_X9_75 ho.2.1.1 (by decide) rfl (ctX10_become ho.2.1 hk0.2.1 hq11.symm) rfl (Nat.le_of_ble_eq_true rfl) (Nat.le_of_ble_eq_true rfl) (go_Z_up w _) rfl rfl ?_
  refine go_aload_n dX9_become_158 0 rfl ?_
  refine pp_getR dX9_become_159 ff_X9_52 (Or.inl ⟨_, rfl⟩) ho.1 (go_RF_ne ho.2.2.2.2.2.2.2.2.2.2.2.2.2.2.2 ho.2.2.2.2.2.2.2.2.2.2.2.2.2.2.1) ?_
  refine go_aload_n dX9_become_162 1 rfl ?_
  refine pp_getR dX9_become_163 ff_X9_52 (Or.inl ⟨_, rfl⟩) hk0.1 (go_RF_ne hk0.2.2.2.2.2.2.2.2.2.2.2.2.2.2.2 hk0.2.2.2.2.2.2.2.2.2.2.2.2.2.2.1) ?_
  obtain ⟨q12, hq12, h⟩ := go_bind h
  refine pp_callV (as := [.ref (a0 + 16)]) (st := []) (rv := none) (μ1 := q12) (st1 := []) dX9_become_166 ll_X9_79 ho.2.2.1.1 (by decide) rfl (ctX7_become ho.2.2.1 hk0.2.2.1 hq12) rfl (Nat.le_of_ble_eq_true rfl) (Nat.le_of_ble_eq_true rfl) (go_Z_up w _) rfl rfl ?_
  refine go_aload_n dX9_become_169 0 rfl ?_
  refine go_aload_n dX9_become_170 1 rfl ?_
  refine pp_getI dX9_become_171 ff_X9_82 (by decide) hk0.1 ?_
  obtain ⟨μ13, hμ13, h⟩ := go_let_e h
  refine pp_putI dX9_become_174 ff_X9_82 (Or.inl rfl) ho.1 hμ13 ?_
  refine go_aload_n dX9_become_177 0 rfl ?_
  refine go_aload_n dX9_become_178 1 rfl ?_
  refine pp_getI dX9_become_179 ff_X9_85 (by decide) hk0.1 ?_
  obtain ⟨μ14, hμ14, h⟩ := go_let_e h
  refine pp_putI dX9_become_182 ff_X9_85 (Or.inl rfl) ho.1 hμ14 ?_
  refine go_aload_n dX9_become_185 0 rfl ?_
  refine go_aload_n dX9_become_186 1 rfl ?_
  refine pp_getI dX9_become_187 ff_X9_56 (by decide) hk0.1 ?_
  obtain ⟨μ15, hμ15, h⟩ := go_let_e h
  refine pp_putI dX9_become_190 ff_X9_56 (Or.inl rfl) ho.1 hμ15 ?_
  refine go_aload_n dX9_become_193 0 rfl ?_
  refine go_aload_n dX9_become_194 1 rfl ?_
  refine pp_getI dX9_become_195 ff_X9_60 (by decide) hk0.1 ?_
  obtain ⟨μ16, hμ16, h⟩ := go_let_e h
  refine pp_putI dX9_become_198 ff_X9_60 (Or.inl rfl) ho.1 hμ16 ?_
  refine go_aload_n dX9_become_201 0 rfl ?_
  refine go_aload_n dX9_become_202 1 rfl ?_
  refine pp_getI dX9_become_203 ff_X9_88 (by decide) hk0.1 ?_
  obtain ⟨μ17, hμ17, h⟩ := go_let_e h
  refine pp_putI dX9_become_206 ff_X9_88 (Or.inl rfl) ho.1 hμ17 ?_
  refine go_aload_n dX9_become_209 0 rfl ?_
  refine go_aload_n dX9_become_210 1 rfl ?_
  refine pp_getI dX9_become_211 ff_X9_91 (by decide) hk0.1 ?_
  obtain ⟨μ18, hμ18, h⟩ := go_let_e h
  refine pp_putI dX9_become_214 ff_X9_91 (Or.inl rfl) ho.1 hμ18 ?_
  cases h
  exact go_vret dX9_become_217 rfl hK
theorem ctX9_become {w : go_Wd} {tx : Nat} {μ : PM} {o : Nat} {a0 : Nat} {μ1 : PM} (ho : go_isV o) (hk0 : go_isV a0) (h : fX9_become μ o a0 = some μ1) : Ct w 3 0 0 mtX9_become [.ref o, .ref a0] (go_mk tx μ) (fun r' M' => r' = none ∧ M' = go_mk tx μ1) :=
  go_entry rfl (by decide) (Nat.le_of_ble_eq_true rfl) (cmX9_become w tx _ μ o a0 ho hk0 _ h ⟨rfl, rfl⟩)