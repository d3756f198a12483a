def jjX12_whose_74_19 (μ : PM)  (v1 : Int32) (v2 : Int32) (v4 : Int32) (s0 : Int32) : Option ((Int32 × Int32 × PM) ⊕ ((Int32 × PM) ⊕ ((Int32 × Int32 × PM) ⊕ (Int32 × PM)))) :=
  some (.inl (s0, (v4 + 1), μ))
def jjX12_whose_73_19 (μ : PM)  (v1 : Int32) (v2 : Int32) (v4 : Int32)  : Option ((Int32 × Int32 × PM) ⊕ ((Int32 × PM) ⊕ ((Int32 × Int32 × PM) ⊕ (Int32 × PM)))) :=
  jjX12_whose_74_19 μ v1 v2 v4 0
def lbX12_whose_19  (v1 : Int32) (v2 : Int32) (v3 : Int32) (v4 : Int32) (μ : PM) : Option ((Int32 × Int32 × PM) ⊕ ((Int32 × PM) ⊕ ((Int32 × Int32 × PM) ⊕ (Int32 × PM)))) :=
  (if (μ.1 402 6) ≤ v4 then some (.inr (.inl (v3, μ))) else (if v3 = 0 then jjX12_whose_73_19 μ v1 v2 v4 else go_chk (126 + (2 * v4)) 1792 <| (fX12_meltsOf μ v2 (μ.1 402 ((126 + (2 * v4)) : Int32).toNatClampNeg)).bind fun q2 => go_chk ((126 + (2 * v4)) + 1) 1792 <| (if q2.1 = (q2.2.1 402 (((126 + (2 * v4)) + 1) : Int32).toNatClampNeg) then jjX12_whose_74_19 q2.2 v1 v2 v4 1 else jjX12_whose_73_19 q2.2 v1 v2 v4)))
def jjX12_whose_93_4 (μ : PM)  (v2 : Int32) (s0 : Int32) (s1 : Int32) : Option ((Int32 × Int32 × PM) ⊕ (Int32 × PM)) :=
  some (.inl ((s0 ||| s1), (v2 + 1), μ))
def lbX12_whose_4   (v1 : Int32) (v2 : Int32) (μ : PM) : Option ((Int32 × Int32 × PM) ⊕ (Int32 × PM)) :=
  (if (μ.1 402 2) ≤ v2 then some (.inr ((v1, μ))) else ((lp (fun s => lbX12_whose_19 v1 v2 s.1 s.2.1 s.2.2) go_fuel (1, 0, μ)).bind fun ρ4 => go_cs ρ4 (fun e5 => (if e5.1 = 0 then jjX12_whose_93_4 e5.2 v2 v1 0 else jjX12_whose_93_4 e5.2 v2 v1 (((1 : Int32) <<< (v2 &&& 31))))) (fun y => some y)))
def fX12_whose (μ : PM)  : Option (Int32 × PM) :=
  ((lp (fun s => lbX12_whose_4 s.1 s.2.1 s.2.2) go_fuel (0, 0, μ)).bind fun ρ6 => some ρ6)
def ggX12_whose_19 (w : go_Wd) (tx : Nat) (Q : Option Value → go_M → Prop)  (v1 : Int32) (v2 : Int32) (s : Int32 × Int32 × PM) : Prop := Go w 7 0 0 mtX12_whose 19 [(0, .ref 401), (1, .int v1), (2, .int v2), (3, .int s.1), (4, .int s.2.1)] [] (go_mk tx s.2.2) (go_Z w Q)
def ggX12_whose_4 (w : go_Wd) (tx : Nat) (Q : Option Value → go_M → Prop)   (s : Int32 × Int32 × PM) : Prop := Go w 7 0 0 mtX12_whose 4 [(0, .ref 401), (1, .int s.1), (2, .int s.2.1)] [] (go_mk tx s.2.2) (go_Z w Q)
def eeX12_whose_4 (w : go_Wd) (tx : Nat) (Q : Option Value → go_M → Prop)   (y : Int32 × PM) : Prop := Q (some (.int y.1)) (go_mk tx y.2)
def eeX12_whose_19 (w : go_Wd) (tx : Nat) (Q : Option Value → go_M → Prop)  (v1 : Int32) (v2 : Int32) : (Int32 × PM) ⊕ ((Int32 × Int32 × PM) ⊕ (Int32 × PM)) → Prop
  | .inl e => Go w 7 0 0 mtX12_whose 81 [(0, .ref 401), (1, .int v1), (2, .int v2), (3, .int e.1)] [] (go_mk tx e.2) (go_Z w Q)
  | .inr y => go_out (ggX12_whose_4 w tx Q  ) (eeX12_whose_4 w tx Q  ) y
set_option maxRecDepth 20000 in
set_option maxHeartbeats 4000000 in
theorem jqX12_whose_74_19 (w : go_Wd) (tx : Nat) (Q : Option Value → go_M → Prop) (μ : PM)  (v1 : Int32) (v2 : Int32) (v4 : Int32)  (s0 : Int32) (hs0 : s0 = 0 ∨ s0 = 1) (out : (Int32 × Int32 × PM) ⊕ ((Int32 × PM) ⊕ ((Int32 × Int32 × PM) ⊕ (Int32 × PM)))) (h : jjX12_whose_74_19 μ v1 v2 v4 s0 = some out) (hK : go_out (ggX12_whose_19 w tx Q  v1 v2) (eeX12_whose_19 w tx Q  v1 v2) out) : Go w 7 0 0 mtX12_whose 74 [(0, .ref 401), (1, .int v1), (2, .int v2), (4, .int v4)] [.int s0] (go_mk tx μ) (go_Z w Q) := by
  unfold jjX12_whose_74_19 at h
  refine go_istore_n dX12_whose_74 (by decide) rfl ?_
  show Go w 7 0 0 mtX12_whose 75 [(3, .int s0), (0, .ref 401), (1, .int v1), (2, .int v2), (4, .int v4)] [] (go_mk tx μ) (go_Z w Q)
  refine go_iinc (v := (v4 + 1)) dX12_whose_75 4 rfl rfl (by decide) rfl ?_
  show Go w 7 0 0 mtX12_whose 78 [(4, .int (v4 + 1)), (3, .int s0), (0, .ref 401), (1, .int v1), (2, .int v2)] [] (go_mk tx μ) (go_Z w Q)
  refine go_goto 19 dX12_whose_78 (by decide) ?_
  cases h
  have hK : Go w 7 0 0 mtX12_whose 19 [(0, .ref 401), (1, .int v1), (2, .int v2), (3, .int s0), (4, .int (v4 + 1))] [] (go_mk tx μ) (go_Z w Q) := hK
  exact go_pick [2, 3, 4, 1, 0] rfl hK
set_option maxRecDepth 20000 in
set_option maxHeartbeats 4000000 in
theorem jqX12_whose_73_19 (w : go_Wd) (tx : Nat) (Q : Option Value → go_M → Prop) (μ : PM)  (v1 : Int32) (v2 : Int32) (v4 : Int32)    (out : (Int32 × Int32 × PM) ⊕ ((Int32 × PM) ⊕ ((Int32 × Int32 × PM) ⊕ (Int32 × PM)))) (h : jjX12_whose_73_19 μ v1 v2 v4  = some out) (hK : go_out (ggX12_whose_19 w tx Q  v1 v2) (eeX12_whose_19 w tx Q  v1 v2) out) : Go w 7 0 0 mtX12_whose 73 [(0, .ref 401), (1, .int v1), (2, .int v2), (4, .int v4)] [] (go_mk tx μ) (go_Z w Q) := by
  unfold jjX12_whose_73_19 at h
  refine go_iconst (v := 0) dX12_whose_73 (by decide) ?_
  refine go_pick [0, 1, 2, 3] rfl ?_
  exact jqX12_whose_74_19 w tx Q μ  v1 v2 v4  0 (Or.inl rfl) _ h hK
set_option maxRecDepth 20000 in
set_option maxHeartbeats 4000000 in
theorem lqX12_whose_19 (w : go_Wd) (tx : Nat) (Q : Option Value → go_M → Prop)  (v1 : Int32) (v2 : Int32)  (v3 : Int32) (v4 : Int32) (μ : PM) (out : (Int32 × Int32 × PM) ⊕ ((Int32 × PM) ⊕ ((Int32 × Int32 × PM) ⊕ (Int32 × PM)))) (h : lbX12_whose_19 v1 v2 v3 v4 μ = some out) (hK : go_out (ggX12_whose_19 w tx Q  v1 v2) (eeX12_whose_19 w tx Q  v1 v2) out) : ggX12_whose_19 w tx Q  v1 v2 (v3, v4, μ) := by
  unfold lbX12_whose_19 at h
  show Go w 7 0 0 mtX12_whose 19 [(0, .ref 401), (1, .int v1), (2, .int v2), (3, .int v3), (4, .int v4)] [] (go_mk tx μ) (go_Z w Q)
  refine go_iload dX12_whose_19 4 rfl ?_
  refine go_aload_n dX12_whose_21 0 rfl ?_
  refine pp_getR dX12_whose_22 ff_X12_7 (Or.inr ⟨_, rfl⟩) sh_401 rf_401_0 ?_
  refine go_bipush (v := 6) dX12_whose_25 (by decide) ?_
  refine pp_ildc (q := 6) dX12_whose_27 sh_402 (by decide) ?_
  refine go_icmp_ge 81 dX12_whose_28 (by decide) (fun hc => ?_) (fun hc => ?_)
  · have h := go_ifp hc h
    cases h
    have hK : Go w 7 0 0 mtX12_whose 81 [(0, .ref 401), (1, .int v1), (2, .int v2), (3, .int v3)] [] (go_mk tx μ) (go_Z w Q) := hK
    exact go_pick [0, 1, 2, 3] rfl hK
  · have h := go_ifn hc h
    refine go_iload_n dX12_whose_31 3 rfl ?_
    refine go_if_eq 73 dX12_whose_32 (by decide) (fun hc => ?_) (fun hc => ?_)
    · have h := go_ifp hc h
      refine go_pick [0, 1, 2, 4] rfl ?_
      exact jqX12_whose_73_19 w tx Q μ  v1 v2 v4    _ h hK
    · have h := go_ifn hc h
      refine go_aload_n dX12_whose_35 0 rfl ?_
      refine go_iload_n dX12_whose_36 2 rfl ?_
      refine go_aload_n dX12_whose_37 0 rfl ?_
      refine pp_getR dX12_whose_38 ff_X12_7 (Or.inr ⟨_, rfl⟩) sh_401 rf_401_0 ?_
      refine go_bipush (v := 126) dX12_whose_41 (by decide) ?_
      refine go_iconst (v := 2) dX12_whose_43 (by decide) ?_
      refine go_iload dX12_whose_44 4 rfl ?_
      refine go_imul dX12_whose_46 ?_
      refine go_iadd dX12_whose_47 ?_
      obtain ⟨hz1, h⟩ := go_chk_e h
      refine pp_ild dX12_whose_48 sh_402 hz1 ?_
      obtain ⟨q2, hq2, h⟩ := go_bind h
      refine pp_callV (as := [.int v2, .int (μ.1 402 ((126 + (2 * v4)) : Int32).toNatClampNeg)]) (st := []) (rv := (some (.int q2.1))) (μ1 := q2.2) (st1 := [.int q2.1]) dX12_whose_49 ll_X12_342 sh_401 (by decide) rfl (ctX12_meltsOf  hq2) rfl (Nat.le_of_ble_eq_true rfl) (Nat.le_of_ble_eq_true rfl) (go_Z_up w _) rfl rfl ?_
      refine go_aload_n dX12_whose_52 0 rfl ?_
      refine pp_getR dX12_whose_53 ff_X12_7 (Or.inr ⟨_, rfl⟩) sh_401 rf_401_0 ?_
      refine go_bipush (v := 126) dX12_whose_56 (by decide) ?_
      refine go_iconst (v := 2) dX12_whose_58 (by decide) ?_
      refine go_iload dX12_whose_59 4 rfl ?_
      refine go_imul dX12_whose_61 ?_
      refine go_iadd dX12_whose_62 ?_
      refine go_iconst (v := 1) dX12_whose_63 (by decide) ?_
      refine go_iadd dX12_whose_64 ?_
      obtain ⟨hz3, h⟩ := go_chk_e h
      refine pp_ild dX12_whose_65 sh_402 hz3 ?_
      refine go_icmp_ne 73 dX12_whose_66 (by decide) (fun hc => ?_) (fun hc => ?_)
      · have h := go_ifn hc h
        refine go_pick [0, 1, 2, 4] rfl ?_
        exact jqX12_whose_73_19 w tx Q q2.2  v1 v2 v4    _ h hK
      · have h := go_ifp hc h
        refine go_iconst (v := 1) dX12_whose_69 (by decide) ?_
        refine go_goto 74 dX12_whose_70 (by decide) ?_
        refine go_pick [0, 1, 2, 4] rfl ?_
        exact jqX12_whose_74_19 w tx Q q2.2  v1 v2 v4  1 (Or.inr rfl) _ h hK
set_option maxRecDepth 20000 in
set_option maxHeartbeats 4000000 in
theorem jqX12_whose_93_4 (w : go_Wd) (tx : Nat) (Q : Option Value → go_M → Prop) (μ : PM)  (v2 : Int32)  (s0 : Int32) (s1 : Int32)  (out : (Int32 × Int32 × PM) ⊕ (Int32 × PM)) (h : jjX12_whose_93_4 μ v2 s0 s1 = some out) (hK : go_out (ggX12_whose_4 w tx Q  ) (eeX12_whose_4 w tx Q  ) out) : Go w 7 0 0 mtX12_whose 93 [(0, .ref 401), (2, .int v2)] [.int s1, .int s0] (go_mk tx μ) (go_Z w Q) := by
  unfold jjX12_whose_93_4 at h
  refine go_ior dX12_whose_93 ?_
  refine go_istore_n dX12_whose_94 (by decide) rfl ?_
  show Go w 7 0 0 mtX12_whose 95 [(1, .int (s0 ||| s1)), (0, .ref 401), (2, .int v2)] [] (go_mk tx μ) (go_Z w Q)
  refine go_iinc (v := (v2 + 1)) dX12_whose_95 2 rfl rfl (by decide) rfl ?_
  show Go w 7 0 0 mtX12_whose 98 [(2, .int (v2 + 1)), (1, .int (s0 ||| s1)), (0, .ref 401)] [] (go_mk tx μ) (go_Z w Q)
  refine go_goto 4 dX12_whose_98 (by decide) ?_
  cases h
  have hK : Go w 7 0 0 mtX12_whose 4 [(0, .ref 401), (1, .int (s0 ||| s1)), (2, .int (v2 + 1))] [] (go_mk tx μ) (go_Z w Q) := hK
  exact go_pick [2, 1, 0] rfl hK
set_option maxRecDepth 20000 in
set_option maxHeartbeats 4000000 in
theorem lqX12_whose_4 (w : go_Wd) (tx : Nat) (Q : Option Value → go_M → Prop)    (v1 : Int32) (v2 : Int32) (μ : PM) (out : (Int32 × Int32 × PM) ⊕ (Int32 × PM)) (h : lbX12_whose_4  v1 v2 μ = some out) (hK : go_out (ggX12_whose_4 w tx Q  ) (eeX12_whose_4 w tx Q  ) out) : ggX12_whose_4 w tx Q   (v1, v2, μ) := by
  unfold lbX12_whose_4 at h
  show Go w 7 0 0 mtX12_whose 4 [(0, .ref 401), (1, .int v1), (2, .int v2)] [] (go_mk tx μ) (go_Z w Q)
  refine go_iload_n dX12_whose_4 2 rfl ?_
  refine go_aload_n dX12_whose_5 0 rfl ?_
  refine pp_getR dX12_whose_6 ff_X12_7 (Or.inr ⟨_, rfl⟩) sh_401 rf_401_0 ?_
  refine go_iconst (v := 2) dX12_whose_9 (by decide) ?_
  refine pp_ildc (q := 2) dX12_whose_10 sh_402 (by decide) ?_
  refine go_icmp_ge 101 dX12_whose_11 (by decide) (fun hc => ?_) (fun hc => ?_)
  · have h := go_ifp hc h
    refine go_iload_n dX12_whose_101 1 rfl ?_
    cases h
    exact go_iret dX12_whose_102 rfl hK
  · have h := go_ifn hc h
    refine go_iconst (v := 1) dX12_whose_14 (by decide) ?_
    refine go_istore_n dX12_whose_15 (by decide) rfl ?_
    show Go w 7 0 0 mtX12_whose 16 [(3, .int 1), (0, .ref 401), (1, .int v1), (2, .int v2)] [] (go_mk tx μ) (go_Z w Q)
    refine go_iconst (v := 0) dX12_whose_16 (by decide) ?_
    refine go_istore dX12_whose_17 (by decide) rfl ?_
    show Go w 7 0 0 mtX12_whose 19 [(4, .int 0), (3, .int 1), (0, .ref 401), (1, .int v1), (2, .int v2)] [] (go_mk tx μ) (go_Z w Q)
    obtain ⟨ρ4, hρ4, h⟩ := go_bind h
    refine go_pick [2, 3, 4, 1, 0] rfl ?_
    refine go_lp (G := ggX12_whose_19 w tx Q  v1 v2) (E := eeX12_whose_19 w tx Q  v1 v2) (fun s out h hK => lqX12_whose_19 w tx Q  v1 v2  s.1 s.2.1 s.2.2 out h hK) go_fuel (1, 0, μ) ρ4 hρ4 ?_
    rcases ρ4 with e5 | y
    · have h := go_csl h
      show Go w 7 0 0 mtX12_whose 81 [(0, .ref 401), (1, .int v1), (2, .int v2), (3, .int e5.1)] [] (go_mk tx e5.2) (go_Z w Q)
      refine go_iload_n dX12_whose_81 1 rfl ?_
      refine go_iload_n dX12_whose_82 3 rfl ?_
      refine go_if_eq 92 dX12_whose_83 (by decide) (fun hc => ?_) (fun hc => ?_)
      · have h := go_ifp hc h
        refine go_iconst (v := 0) dX12_whose_92 (by decide) ?_
        refine go_pick [0, 2] rfl ?_
        exact jqX12_whose_93_4 w tx Q e5.2  v2  v1 0  _ h hK
      · have h := go_ifn hc h
        refine go_iconst (v := 1) dX12_whose_86 (by decide) ?_
        refine go_iload_n dX12_whose_87 2 rfl ?_
        refine go_ishl dX12_whose_88 ?_
        refine go_goto 93 dX12_whose_89 (by decide) ?_
        refine go_pick [0, 2] rfl ?_
        exact jqX12_whose_93_4 w tx Q e5.2  v2  v1 (((1 : Int32) <<< (v2 &&& 31)))  _ h hK
    · have h := go_csr h
      cases h
      exact hK
set_option maxRecDepth 20000 in
set_option maxHeartbeats 4000000 in
theorem cmX12_whose (w : go_Wd) (tx : Nat) (Q : Option Value → go_M → Prop) (μ : PM)  (out : Int32 × PM) (h : fX12_whose μ = some out) (hK : Q (some (.int out.1)) (go_mk tx out.2)) : Go w 7 0 0 mtX12_whose 0 [(0, .ref 401)] [] (go_mk tx μ) (go_Z w Q) := by
  unfold fX12_whose at h
  refine go_iconst (v := 0) dX12_whose_0 (by decide) ?_
  refine go_istore_n dX12_whose_1 (by decide) rfl ?_
  show Go w 7 0 0 mtX12_whose 2 [(1, .int 0), (0, .ref 401)] [] (go_mk tx μ) (go_Z w Q)
  refine go_iconst (v := 0) dX12_whose_2 (by decide) ?_
  refine go_istore_n dX12_whose_3 (by decide) rfl ?_
  show Go w 7 0 0 mtX12_whose 4 [(2, .int 0), (1, .int 0), (0, .ref 401)] [] (go_mk tx μ) (go_Z w Q)
  obtain ⟨ρ6, hρ6, h⟩ := go_bind h
  refine go_pick [2, 1, 0] rfl ?_
  refine go_lp (G := ggX12_whose_4 w tx Q  ) (E := eeX12_whose_4 w tx Q  ) (fun s out h hK => lqX12_whose_4 w tx Q    s.1 s.2.1 s.2.2 out h hK) go_fuel (0, 0, μ) ρ6 hρ6 ?_
  cases h
  exact hK
theorem ctX12_whose {w : go_Wd} {tx : Nat} {μ : PM}  {r : Int32} {μ1 : PM}  (h : fX12_whose μ = some (r, μ1)) : Ct w 7 0 0 mtX12_whose [.ref 401] (go_mk tx μ) (fun r' M' => r' = some (.int r) ∧ M' = go_mk tx μ1) :=
  go_entry rfl (by decide) (Nat.le_of_ble_eq_true rfl) (cmX12_whose w tx _ μ  _ h ⟨rfl, rfl⟩)
def fX12_image (μ : PM)  : Option (Int32 × PM) :=
  (fX12_copy μ 402 403).bind fun q1 => some (((q1.1 402 7), q1))
set_option maxRecDepth 20000 in
set_option maxHeartbeats 4000000 in
theorem cmX12_image (w : go_Wd) (tx : Nat) (Q : Option Value → go_M → Prop) (μ : PM)  (out : Int32 × PM) (h : fX12_image μ = some out) (hK : Q (some (.int out.1)) (go_mk tx out.2)) : Go w 1 0 0 mtX12_image 0 [(0, .ref 401)] [] (go_mk tx μ) (go_Z w Q) := by
  unfold fX12_image at h
  refine go_aload_n dX12_image_0 0 rfl ?_
  refine pp_getR dX12_image_1 ff_X12_7 (Or.inr ⟨_, rfl⟩) sh_401 rf_401_0 ?_
  refine go_aload_n dX12_image_4 0 rfl ?_
  refine pp_getR dX12_image_5 ff_X12_13 (Or.inr ⟨_, rfl⟩) sh_401 rf_401_1 ?_
  obtain ⟨q1, hq1, h⟩ := go_bind h
  refine pp_callS (as := [.ref 402, .ref 403]) (st := []) (rv := none) (μ1 := q1) (st1 := []) dX12_image_8 ll_X12_59 (ctX12_copy sh_402 sh_403 hq1) rfl (Nat.le_of_ble_eq_true rfl) (Nat.le_of_ble_eq_true rfl) (go_Z_up w _) rfl rfl ?_
  refine go_aload_n dX12_image_11 0 rfl ?_
  refine pp_getR dX12_image_12 ff_X12_7 (Or.inr ⟨_, rfl⟩) sh_401 rf_401_0 ?_
  refine go_bipush (v := 7) dX12_image_15 (by decide) ?_
  refine pp_ildc (q := 7) dX12_image_17 sh_402 (by decide) ?_
  cases h
  exact go_iret dX12_image_18 rfl hK
theorem ctX12_image {w : go_Wd} {tx : Nat} {μ : PM}  {r : Int32} {μ1 : PM}  (h : fX12_image μ = some (r, μ1)) : Ct w 1 0 0 mtX12_image [.ref 401] (go_mk tx μ) (fun r' M' => r' = some (.int r) ∧ M' = go_mk tx μ1) :=
  go_entry rfl (by decide) (Nat.le_of_ble_eq_true rfl) (cmX12_image w tx _ μ  _ h ⟨rfl, rfl⟩)
def fX12_back (μ : PM)  : Option (Int32 × PM) :=
  (fX12_copy μ 403 402).bind fun q1 => some (((q1.1 402 7), q1))
set_option maxRecDepth 20000 in
set_option maxHeartbeats 4000000 in
theorem cmX12_back (w : go_Wd) (tx : Nat) (Q : Option Value → go_M → Prop) (μ : PM)  (out : Int32 × PM) (h : fX12_back μ = some out) (hK : Q (some (.int out.1)) (go_mk tx out.2)) : Go w 1 0 0 mtX12_back 0 [(0, .ref 401)] [] (go_mk tx μ) (go_Z w Q) := by
  unfold fX12_back at h
  refine go_aload_n dX12_back_0 0 rfl ?_
  refine pp_getR dX12_back_1 ff_X12_13 (Or.inr ⟨_, rfl⟩) sh_401 rf_401_1 ?_
  refine go_aload_n dX12_back_4 0 rfl ?_
  refine pp_getR dX12_back_5 ff_X12_7 (Or.inr ⟨_, rfl⟩) sh_401 rf_401_0 ?_
  obtain ⟨q1, hq1, h⟩ := go_bind h
  refine pp_callS (as := [.ref 403, .ref 402]) (st := []) (rv := none) (μ1 := q1) (st1 := []) dX12_back_8 ll_X12_59 (ctX12_copy sh_403 sh_402 hq1) rfl (Nat.le_of_ble_eq_true rfl) (Nat.le_of_ble_eq_true rfl) (go_Z_up w _) rfl rfl ?_
  refine go_aload_n dX12_back_11 0 rfl ?_
  refine pp_getR dX12_back_12 ff_X12_7 (Or.inr ⟨_, rfl⟩) sh_401 rf_401_0 ?_
  refine go_bipush (v := 7) dX12_back_15 (by decide) ?_
  refine pp_ildc (q := 7) dX12_back_17 sh_402 (by decide) ?_
  cases h
  exact go_iret dX12_back_18 rfl hK
theorem ctX12_back {w : go_Wd} {tx : Nat} {μ : PM}  {r : Int32} {μ1 : PM}  (h : fX12_back μ = some (r, μ1)) : Ct w 1 0 0 mtX12_back [.ref 401] (go_mk tx μ) (fun r' M' => r' = some (.int r) ∧ M' = go_mk tx μ1) :=
  go_entry rfl (by decide) (Nat.le_of_ble_eq_true rfl) (cmX12_back w tx _ μ  _ h ⟨rfl, rfl⟩)
def fX12_about (μ : PM) (a0 : Int32) : Option (Int32) :=
  (if (fX12_isIn a0 0 6) = 0 then (if a0 = 7 then some ((μ.1 401 4)) else some ((-2))) else go_chk a0 1792 <| some ((μ.1 402 a0.toNatClampNeg)))
set_option maxRecDepth 20000 in
set_option maxHeartbeats 4000000 in
theorem cmX12_about (w : go_Wd) (tx : Nat) (Q : Option Value → go_M → Prop) (μ : PM) (a0 : Int32) (out : Int32) (h : fX12_about μ a0 = some out) (hK : Q (some (.int out)) (go_mk tx μ)) : Go w 1 0 0 mtX12_about 0 [(0, .ref 401), (1, .int a0)] [] (go_mk tx μ) (go_Z w Q) := by
  unfold fX12_about at h
  refine go_iload_n dX12_about_0 1 rfl ?_
  refine go_iconst (v := 0) dX12_about_1 (by decide) ?_
  refine go_bipush (v := 6) dX12_about_2 (by decide) ?_
  refine pp_callS (as := [.int a0, .int 0, .int 6]) (st := []) (rv := (some (.int (fX12_isIn a0 0 6)))) (μ1 := μ) (st1 := [.int (fX12_isIn a0 0 6)]) dX12_about_4 ll_X12_63 (ctX12_isIn  rfl) rfl (Nat.le_of_ble_eq_true rfl) (Nat.le_of_ble_eq_true rfl) (go_Z_up w _) rfl rfl ?_
  refine go_if_eq 19 dX12_about_7 (by decide) (fun hc => ?_) (fun hc => ?_)
  · have h := go_ifp hc h
    refine go_iload_n dX12_about_19 1 rfl ?_
    refine go_bipush (v := 7) dX12_about_20 (by decide) ?_
    refine go_icmp_ne 32 dX12_about_22 (by decide) (fun hc => ?_) (fun hc => ?_)
    · have h := go_ifn hc h
      refine go_bipush (v := (-2)) dX12_about_32 (by decide) ?_
      cases h
      exact go_iret dX12_about_34 rfl hK
    · have h := go_ifp hc h
      refine go_aload_n dX12_about_25 0 rfl ?_
      refine pp_getI dX12_about_26 ff_X12_87 (by decide) sh_401 ?_
      refine go_goto 34 dX12_about_29 (by decide) ?_
      cases h
      exact go_iret dX12_about_34 rfl hK
  · have h := go_ifn hc h
    refine go_aload_n dX12_about_10 0 rfl ?_
    refine pp_getR dX12_about_11 ff_X12_7 (Or.inr ⟨_, rfl⟩) sh_401 rf_401_0 ?_
    refine go_iload_n dX12_about_14 1 rfl ?_
    obtain ⟨hz1, h⟩ := go_chk_e h
    refine pp_ild dX12_about_15 sh_402 hz1 ?_
    refine go_goto 34 dX12_about_16 (by decide) ?_
    cases h
    exact go_iret dX12_about_34 rfl hK
theorem ctX12_about {w : go_Wd} {tx : Nat} {μ : PM} {a0 : Int32} {r : Int32}  (h : fX12_about μ a0 = some r) : Ct w 1 0 0 mtX12_about [.ref 401, .int a0] (go_mk tx μ) (fun r' M' => r' = some (.int r) ∧ M' = go_mk tx μ) :=
  go_entry rfl (by decide) (Nat.le_of_ble_eq_true rfl) (cmX12_about w tx _ μ a0 _ h ⟨rfl, rfl⟩)