def jjX4_settle_208_110 (μ : PM) (a0 : Int32) (v2 : Int32) (v5 : Int32) (v7 : Int32) (v9 : Int32)  : Option ((Int32 × Int32 × PM) ⊕ ((PM) ⊕ ((Int32 × PM) ⊕ (PM)))) :=
  some (.inl (v9, (v7 + 1), μ))
def jjX4_settle_172_110 (μ : PM) (a0 : Int32) (v2 : Int32) (v5 : Int32) (v6 : Int32) (v7 : Int32) (v8 : Int32) (v9 : Int32) (s1 : Int32) : Option ((Int32 × Int32 × PM) ⊕ ((PM) ⊕ ((Int32 × PM) ⊕ (PM)))) :=
  (fX4_likesMore μ s1 v8 v6 v9).bind fun q10 => (if q10 = 0 then some (.inl (v6, (v7 + 1), μ)) else go_chk v6 6 <| go_let (pm_wi μ 389 v6.toNatClampNeg v8) fun μ11 => go_chk v8 5 <| go_let (pm_wi μ11 388 v8.toNatClampNeg v6) fun μ13 => (if v9 = (-1) then jjX4_settle_208_110 μ13 a0 v2 v5 v7 v9 else go_chk v9 6 <| go_let (pm_wi μ13 389 v9.toNatClampNeg (-1)) fun μ15 => jjX4_settle_208_110 μ15 a0 v2 v5 v7 v9))
def lbX4_settle_110 (a0 : Int32) (v2 : Int32) (v5 : Int32) (v6 : Int32) (v7 : Int32) (μ : PM) : Option ((Int32 × Int32 × PM) ⊕ ((PM) ⊕ ((Int32 × PM) ⊕ (PM)))) :=
  (if 30 < v7 then some (.inr (.inl μ)) else (if v6 = (-1) then some (.inr (.inl μ)) else (fX4_bestToAsk μ a0 v6).bind fun q4 => (if q4 = (-1) then some (.inr (.inl μ)) else go_chk v6 6 <| go_chk v6 6 <| go_let (pm_wi μ 390 v6.toNatClampNeg ((μ.1 390 v6.toNatClampNeg) ||| ((1 : Int32) <<< (q4 &&& 31)))) fun μ6 => go_chk q4 5 <| go_let ((μ6.1 388 q4.toNatClampNeg)) fun x9 => (if a0 = 0 then jjX4_settle_172_110 μ6 a0 v2 v5 v6 v7 q4 x9 1 else jjX4_settle_172_110 μ6 a0 v2 v5 v6 v7 q4 x9 0))))
def lbX4_settle_97 (a0 : Int32) (v2 : Int32) (v5 : Int32) (μ : PM) : Option ((Int32 × PM) ⊕ (PM)) :=
  (if v2 ≤ v5 then some (.inr (μ)) else ((lp (fun s => lbX4_settle_110 a0 v2 v5 s.1 s.2.1 s.2.2) go_fuel (v5, 0, μ)).bind fun ρ17 => go_cs ρ17 (fun e18 => some (.inl ((v5 + 1), e18))) (fun y => some y)))
def jjX4_settle_92 (μ : PM) (a0 : Int32) (v2 : Int32)  : Option (PM) :=
  ((lp (fun s => lbX4_settle_97 a0 v2 s.1 s.2) go_fuel (0, μ)).bind fun ρ19 => some ρ19)
def jjX4_settle_208_110_b (μ : PM) (a0 : Int32) (v2 : Int32) (v5 : Int32) (v7 : Int32) (v9 : Int32)  : Option ((Int32 × Int32 × PM) ⊕ ((PM) ⊕ ((Int32 × PM) ⊕ (PM)))) :=
  some (.inl (v9, (v7 + 1), μ))
def jjX4_settle_172_110_b (μ : PM) (a0 : Int32) (v2 : Int32) (v5 : Int32) (v6 : Int32) (v7 : Int32) (v8 : Int32) (v9 : Int32) (s1 : Int32) : Option ((Int32 × Int32 × PM) ⊕ ((PM) ⊕ ((Int32 × PM) ⊕ (PM)))) :=
  (fX4_likesMore μ s1 v8 v6 v9).bind fun q26 => (if q26 = 0 then some (.inl (v6, (v7 + 1), μ)) else go_chk v6 6 <| go_let (pm_wi μ 389 v6.toNatClampNeg v8) fun μ27 => go_chk v8 6 <| go_let (pm_wi μ27 389 v8.toNatClampNeg v6) fun μ29 => (if v9 = (-1) then jjX4_settle_208_110_b μ29 a0 v2 v5 v7 v9 else go_chk v9 6 <| go_let (pm_wi μ29 389 v9.toNatClampNeg (-1)) fun μ31 => jjX4_settle_208_110_b μ31 a0 v2 v5 v7 v9))
def lbX4_settle_110_b (a0 : Int32) (v2 : Int32) (v5 : Int32) (v6 : Int32) (v7 : Int32) (μ : PM) : Option ((Int32 × Int32 × PM) ⊕ ((PM) ⊕ ((Int32 × PM) ⊕ (PM)))) :=
  (if 30 < v7 then some (.inr (.inl μ)) else (if v6 = (-1) then some (.inr (.inl μ)) else (fX4_bestToAsk μ a0 v6).bind fun q20 => (if q20 = (-1) then some (.inr (.inl μ)) else go_chk v6 6 <| go_chk v6 6 <| go_let (pm_wi μ 390 v6.toNatClampNeg ((μ.1 390 v6.toNatClampNeg) ||| ((1 : Int32) <<< (q20 &&& 31)))) fun μ22 => go_chk q20 6 <| go_let ((μ22.1 389 q20.toNatClampNeg)) fun x25 => (if a0 = 0 then jjX4_settle_172_110_b μ22 a0 v2 v5 v6 v7 q20 x25 1 else jjX4_settle_172_110_b μ22 a0 v2 v5 v6 v7 q20 x25 0))))
def lbX4_settle_97_b (a0 : Int32) (v2 : Int32) (v5 : Int32) (μ : PM) : Option ((Int32 × PM) ⊕ (PM)) :=
  (if v2 ≤ v5 then some (.inr (μ)) else ((lp (fun s => lbX4_settle_110_b a0 v2 v5 s.1 s.2.1 s.2.2) go_fuel (v5, 0, μ)).bind fun ρ33 => go_cs ρ33 (fun e34 => some (.inl ((v5 + 1), e34))) (fun y => some y)))
def jjX4_settle_92_b (μ : PM) (a0 : Int32) (v2 : Int32)  : Option (PM) :=
  ((lp (fun s => lbX4_settle_97_b a0 v2 s.1 s.2) go_fuel (0, μ)).bind fun ρ35 => some ρ35)
def jjX4_settle_76 (μ : PM) (a0 : Int32) (v2 : Int32)  : Option (PM) :=
  (if a0 = 0 then jjX4_settle_92 μ a0 v2 else jjX4_settle_92_b μ a0 v2)
def jjX4_settle_208_110_c (μ : PM) (a0 : Int32) (v2 : Int32) (v5 : Int32) (v7 : Int32) (v9 : Int32)  : Option ((Int32 × Int32 × PM) ⊕ ((PM) ⊕ ((Int32 × PM) ⊕ (PM)))) :=
  some (.inl (v9, (v7 + 1), μ))
def jjX4_settle_172_110_c (μ : PM) (a0 : Int32) (v2 : Int32) (v5 : Int32) (v6 : Int32) (v7 : Int32) (v8 : Int32) (v9 : Int32) (s1 : Int32) : Option ((Int32 × Int32 × PM) ⊕ ((PM) ⊕ ((Int32 × PM) ⊕ (PM)))) :=
  (fX4_likesMore μ s1 v8 v6 v9).bind fun q42 => (if q42 = 0 then some (.inl (v6, (v7 + 1), μ)) else go_chk v6 5 <| go_let (pm_wi μ 388 v6.toNatClampNeg v8) fun μ43 => go_chk v8 5 <| go_let (pm_wi μ43 388 v8.toNatClampNeg v6) fun μ45 => (if v9 = (-1) then jjX4_settle_208_110_c μ45 a0 v2 v5 v7 v9 else go_chk v9 5 <| go_let (pm_wi μ45 388 v9.toNatClampNeg (-1)) fun μ47 => jjX4_settle_208_110_c μ47 a0 v2 v5 v7 v9))
def lbX4_settle_110_c (a0 : Int32) (v2 : Int32) (v5 : Int32) (v6 : Int32) (v7 : Int32) (μ : PM) : Option ((Int32 × Int32 × PM) ⊕ ((PM) ⊕ ((Int32 × PM) ⊕ (PM)))) :=
  (if 30 < v7 then some (.inr (.inl μ)) else (if v6 = (-1) then some (.inr (.inl μ)) else (fX4_bestToAsk μ a0 v6).bind fun q36 => (if q36 = (-1) then some (.inr (.inl μ)) else go_chk v6 6 <| go_chk v6 6 <| go_let (pm_wi μ 390 v6.toNatClampNeg ((μ.1 390 v6.toNatClampNeg) ||| ((1 : Int32) <<< (q36 &&& 31)))) fun μ38 => go_chk q36 5 <| go_let ((μ38.1 388 q36.toNatClampNeg)) fun x41 => (if a0 = 0 then jjX4_settle_172_110_c μ38 a0 v2 v5 v6 v7 q36 x41 1 else jjX4_settle_172_110_c μ38 a0 v2 v5 v6 v7 q36 x41 0))))
def lbX4_settle_97_c (a0 : Int32) (v2 : Int32) (v5 : Int32) (μ : PM) : Option ((Int32 × PM) ⊕ (PM)) :=
  (if v2 ≤ v5 then some (.inr (μ)) else ((lp (fun s => lbX4_settle_110_c a0 v2 v5 s.1 s.2.1 s.2.2) go_fuel (v5, 0, μ)).bind fun ρ49 => go_cs ρ49 (fun e50 => some (.inl ((v5 + 1), e50))) (fun y => some y)))
def jjX4_settle_92_c (μ : PM) (a0 : Int32) (v2 : Int32)  : Option (PM) :=
  ((lp (fun s => lbX4_settle_97_c a0 v2 s.1 s.2) go_fuel (0, μ)).bind fun ρ51 => some ρ51)
def jjX4_settle_208_110_d (μ : PM) (a0 : Int32) (v2 : Int32) (v5 : Int32) (v7 : Int32) (v9 : Int32)  : Option ((Int32 × Int32 × PM) ⊕ ((PM) ⊕ ((Int32 × PM) ⊕ (PM)))) :=
  some (.inl (v9, (v7 + 1), μ))
def jjX4_settle_172_110_d (μ : PM) (a0 : Int32) (v2 : Int32) (v5 : Int32) (v6 : Int32) (v7 : Int32) (v8 : Int32) (v9 : Int32) (s1 : Int32) : Option ((Int32 × Int32 × PM) ⊕ ((PM) ⊕ ((Int32 × PM) ⊕ (PM)))) :=
  (fX4_likesMore μ s1 v8 v6 v9).bind fun q58 => (if q58 = 0 then some (.inl (v6, (v7 + 1), μ)) else go_chk v6 5 <| go_let (pm_wi μ 388 v6.toNatClampNeg v8) fun μ59 => go_chk v8 6 <| go_let (pm_wi μ59 389 v8.toNatClampNeg v6) fun μ61 => (if v9 = (-1) then jjX4_settle_208_110_d μ61 a0 v2 v5 v7 v9 else go_chk v9 5 <| go_let (pm_wi μ61 388 v9.toNatClampNeg (-1)) fun μ63 => jjX4_settle_208_110_d μ63 a0 v2 v5 v7 v9))
def lbX4_settle_110_d (a0 : Int32) (v2 : Int32) (v5 : Int32) (v6 : Int32) (v7 : Int32) (μ : PM) : Option ((Int32 × Int32 × PM) ⊕ ((PM) ⊕ ((Int32 × PM) ⊕ (PM)))) :=
  (if 30 < v7 then some (.inr (.inl μ)) else (if v6 = (-1) then some (.inr (.inl μ)) else (fX4_bestToAsk μ a0 v6).bind fun q52 => (if q52 = (-1) then some (.inr (.inl μ)) else go_chk v6 6 <| go_chk v6 6 <| go_let (pm_wi μ 390 v6.toNatClampNeg ((μ.1 390 v6.toNatClampNeg) ||| ((1 : Int32) <<< (q52 &&& 31)))) fun μ54 => go_chk q52 6 <| go_let ((μ54.1 389 q52.toNatClampNeg)) fun x57 => (if a0 = 0 then jjX4_settle_172_110_d μ54 a0 v2 v5 v6 v7 q52 x57 1 else jjX4_settle_172_110_d μ54 a0 v2 v5 v6 v7 q52 x57 0))))
def lbX4_settle_97_d (a0 : Int32) (v2 : Int32) (v5 : Int32) (μ : PM) : Option ((Int32 × PM) ⊕ (PM)) :=
  (if v2 ≤ v5 then some (.inr (μ)) else ((lp (fun s => lbX4_settle_110_d a0 v2 v5 s.1 s.2.1 s.2.2) go_fuel (v5, 0, μ)).bind fun ρ65 => go_cs ρ65 (fun e66 => some (.inl ((v5 + 1), e66))) (fun y => some y)))
def jjX4_settle_92_d (μ : PM) (a0 : Int32) (v2 : Int32)  : Option (PM) :=
  ((lp (fun s => lbX4_settle_97_d a0 v2 s.1 s.2) go_fuel (0, μ)).bind fun ρ67 => some ρ67)
def jjX4_settle_76_b (μ : PM) (a0 : Int32) (v2 : Int32)  : Option (PM) :=
  (if a0 = 0 then jjX4_settle_92_c μ a0 v2 else jjX4_settle_92_d μ a0 v2)
def jjX4_settle_60 (μ : PM) (a0 : Int32)  (s0 : Int32) : Option (PM) :=
  (if a0 = 0 then jjX4_settle_76 μ a0 s0 else jjX4_settle_76_b μ a0 s0)
def fX4_settle (μ : PM) (a0 : Int32) : Option (PM) :=
  (fJ7_fill_53178 μ 388 5 (-1)).bind fun q1 => (fJ7_fill_53178 q1 389 6 (-1)).bind fun q2 => (fJ7_fill_53178 q2 390 6 0).bind fun q3 => (if a0 = 0 then jjX4_settle_60 q3 a0 ((jmin (q3.1 12 5) 6)) else jjX4_settle_60 q3 a0 ((jmin (q3.1 12 6) 5)))
def ggX4_settle_110 (w : go_Wd) (tx : Nat) (Q : Option Value → go_M → Prop) (a0 : Int32) (v2 : Int32) (v5 : Int32) (s : Int32 × Int32 × PM) : Prop := Go w 4 0 0 mtX4_settle 110 [(0, .ref 387), (1, .int a0), (2, .int v2), (3, .ref 389), (4, .ref 388), (5, .int v5), (6, .int s.1), (7, .int s.2.1)] [] (go_mk tx s.2.2) (go_Z w Q)
def ggX4_settle_97 (w : go_Wd) (tx : Nat) (Q : Option Value → go_M → Prop) (a0 : Int32) (v2 : Int32) (s : Int32 × PM) : Prop := Go w 4 0 0 mtX4_settle 97 [(0, .ref 387), (1, .int a0), (2, .int v2), (3, .ref 389), (4, .ref 388), (5, .int s.1)] [] (go_mk tx s.2) (go_Z w Q)
def ggX4_settle_110_b (w : go_Wd) (tx : Nat) (Q : Option Value → go_M → Prop) (a0 : Int32) (v2 : Int32) (v5 : Int32) (s : Int32 × Int32 × PM) : Prop := Go w 4 0 0 mtX4_settle 110 [(0, .ref 387), (1, .int a0), (2, .int v2), (3, .ref 389), (4, .ref 389), (5, .int v5), (6, .int s.1), (7, .int s.2.1)] [] (go_mk tx s.2.2) (go_Z w Q)
def ggX4_settle_97_b (w : go_Wd) (tx : Nat) (Q : Option Value → go_M → Prop) (a0 : Int32) (v2 : Int32) (s : Int32 × PM) : Prop := Go w 4 0 0 mtX4_settle 97 [(0, .ref 387), (1, .int a0), (2, .int v2), (3, .ref 389), (4, .ref 389), (5, .int s.1)] [] (go_mk tx s.2) (go_Z w Q)
def ggX4_settle_110_c (w : go_Wd) (tx : Nat) (Q : Option Value → go_M → Prop) (a0 : Int32) (v2 : Int32) (v5 : Int32) (s : Int32 × Int32 × PM) : Prop := Go w 4 0 0 mtX4_settle 110 [(0, .ref 387), (1, .int a0), (2, .int v2), (3, .ref 388), (4, .ref 388), (5, .int v5), (6, .int s.1), (7, .int s.2.1)] [] (go_mk tx s.2.2) (go_Z w Q)
def ggX4_settle_97_c (w : go_Wd) (tx : Nat) (Q : Option Value → go_M → Prop) (a0 : Int32) (v2 : Int32) (s : Int32 × PM) : Prop := Go w 4 0 0 mtX4_settle 97 [(0, .ref 387), (1, .int a0), (2, .int v2), (3, .ref 388), (4, .ref 388), (5, .int s.1)] [] (go_mk tx s.2) (go_Z w Q)
def ggX4_settle_110_d (w : go_Wd) (tx : Nat) (Q : Option Value → go_M → Prop) (a0 : Int32) (v2 : Int32) (v5 : Int32) (s : Int32 × Int32 × PM) : Prop := Go w 4 0 0 mtX4_settle 110 [(0, .ref 387), (1, .int a0), (2, .int v2), (3, .ref 388), (4, .ref 389), (5, .int v5), (6, .int s.1), (7, .int s.2.1)] [] (go_mk tx s.2.2) (go_Z w Q)
def ggX4_settle_97_d (w : go_Wd) (tx : Nat) (Q : Option Value → go_M → Prop) (a0 : Int32) (v2 : Int32) (s : Int32 × PM) : Prop := Go w 4 0 0 mtX4_settle 97 [(0, .ref 387), (1, .int a0), (2, .int v2), (3, .ref 388), (4, .ref 389), (5, .int s.1)] [] (go_mk tx s.2) (go_Z w Q)
def eeX4_settle_97 (w : go_Wd) (tx : Nat) (Q : Option Value → go_M → Prop) (a0 : Int32) (v2 : Int32) (y : PM) : Prop := Q none (go_mk tx y)
def eeX4_settle_97_b (w : go_Wd) (tx : Nat) (Q : Option Value → go_M → Prop) (a0 : Int32) (v2 : Int32) (y : PM) : Prop := Q none (go_mk tx y)
def eeX4_settle_97_c (w : go_Wd) (tx : Nat) (Q : Option Value → go_M → Prop) (a0 : Int32) (v2 : Int32) (y : PM) : Prop := Q none (go_mk tx y)
def eeX4_settle_97_d (w : go_Wd) (tx : Nat) (Q : Option Value → go_M → Prop) (a0 : Int32) (v2 : Int32) (y : PM) : Prop := Q none (go_mk tx y)
def eeX4_settle_110 (w : go_Wd) (tx : Nat) (Q : Option Value → go_M → Prop) (a0 : Int32) (v2 : Int32) (v5 : Int32) : (PM) ⊕ ((Int32 × PM) ⊕ (PM)) → Prop
  | .inl e => Go w 4 0 0 mtX4_settle 218 [(0, .ref 387), (1, .int a0), (2, .int v2), (3, .ref 389), (4, .ref 388), (5, .int v5)] [] (go_mk tx e) (go_Z w Q)
  | .inr y => go_out (ggX4_settle_97 w tx Q a0 v2) (eeX4_settle_97 w tx Q a0 v2) y
def eeX4_settle_110_b (w : go_Wd) (tx : Nat) (Q : Option Value → go_M → Prop) (a0 : Int32) (v2 : Int32) (v5 : Int32) : (PM) ⊕ ((Int32 × PM) ⊕ (PM)) → Prop
  | .inl e => Go w 4 0 0 mtX4_settle 218 [(0, .ref 387), (1, .int a0), (2, .int v2), (3, .ref 389), (4, .ref 389), (5, .int v5)] [] (go_mk tx e) (go_Z w Q)
  | .inr y => go_out (ggX4_settle_97_b w tx Q a0 v2) (eeX4_settle_97_b w tx Q a0 v2) y
def eeX4_settle_110_c (w : go_Wd) (tx : Nat) (Q : Option Value → go_M → Prop) (a0 : Int32) (v2 : Int32) (v5 : Int32) : (PM) ⊕ ((Int32 × PM) ⊕ (PM)) → Prop
  | .inl e => Go w 4 0 0 mtX4_settle 218 [(0, .ref 387), (1, .int a0), (2, .int v2), (3, .ref 388), (4, .ref 388), (5, .int v5)] [] (go_mk tx e) (go_Z w Q)
  | .inr y => go_out (ggX4_settle_97_c w tx Q a0 v2) (eeX4_settle_97_c w tx Q a0 v2) y
def eeX4_settle_110_d (w : go_Wd) (tx : Nat) (Q : Option Value → go_M → Prop) (a0 : Int32) (v2 : Int32) (v5 : Int32) : (PM) ⊕ ((Int32 × PM) ⊕ (PM)) → Prop
  | .inl e => Go w 4 0 0 mtX4_settle 218 [(0, .ref 387), (1, .int a0), (2, .int v2), (3, .ref 388), (4, .ref 389), (5, .int v5)] [] (go_mk tx e) (go_Z w Q)
  | .inr y => go_out (ggX4_settle_97_d w tx Q a0 v2) (eeX4_settle_97_d w tx Q a0 v2) y
set_option maxRecDepth 20000 in
set_option maxHeartbeats 4000000 in
theorem jqX4_settle_208_110 (w : go_Wd) (tx : Nat) (Q : Option Value → go_M → Prop) (μ : PM) (a0 : Int32) (v2 : Int32) (v5 : Int32) (v7 : Int32) (v9 : Int32)    (out : (Int32 × Int32 × PM) ⊕ ((PM) ⊕ ((Int32 × PM) ⊕ (PM)))) (h : jjX4_settle_208_110 μ a0 v2 v5 v7 v9  = some out) (hK : go_out (ggX4_settle_110 w tx Q a0 v2 v5) (eeX4_settle_110 w tx Q a0 v2 v5) out) : Go w 4 0 0 mtX4_settle 208 [(0, .ref 387), (1, .int a0), (2, .int v2), (3, .ref 389), (4, .ref 388), (5, .int v5), (7, .int v7), (9, .int v9)] [] (go_mk tx μ) (go_Z w Q) := by
  unfold jjX4_settle_208_110 at h
  refine go_iload dX4_settle_208 7 rfl ?_
  refine go_istore dX4_settle_210 (by decide) rfl ?_
  show Go w 4 0 0 mtX4_settle 212 [(6, .int v9), (0, .ref 387), (1, .int a0), (2, .int v2), (3, .ref 389), (4, .ref 388), (5, .int v5), (7, .int v7), (9, .int v9)] [] (go_mk tx μ) (go_Z w Q)
  refine go_iinc (v := (v7 + 1)) dX4_settle_212 7 rfl rfl (by decide) rfl ?_
  show Go w 4 0 0 mtX4_settle 215 [(7, .int (v7 + 1)), (6, .int v9), (0, .ref 387), (1, .int a0), (2, .int v2), (3, .ref 389), (4, .ref 388), (5, .int v5), (9, .int v9)] [] (go_mk tx μ) (go_Z w Q)
  refine go_goto 110 dX4_settle_215 (by decide) ?_
  cases h
  have hK : Go w 4 0 0 mtX4_settle 110 [(0, .ref 387), (1, .int a0), (2, .int v2), (3, .ref 389), (4, .ref 388), (5, .int v5), (6, .int v9), (7, .int (v7 + 1))] [] (go_mk tx μ) (go_Z w Q) := hK
  exact go_pick [2, 3, 4, 5, 6, 7, 1, 0] rfl hK
set_option maxRecDepth 20000 in
set_option maxHeartbeats 4000000 in
theorem jqX4_settle_172_110 (w : go_Wd) (tx : Nat) (Q : Option Value → go_M → Prop) (μ : PM) (a0 : Int32) (v2 : Int32) (v5 : Int32) (v6 : Int32) (v7 : Int32) (v8 : Int32) (v9 : Int32)  (s1 : Int32) (hs1 : s1 = 0 ∨ s1 = 1) (out : (Int32 × Int32 × PM) ⊕ ((PM) ⊕ ((Int32 × PM) ⊕ (PM)))) (h : jjX4_settle_172_110 μ a0 v2 v5 v6 v7 v8 v9 s1 = some out) (hK : go_out (ggX4_settle_110 w tx Q a0 v2 v5) (eeX4_settle_110 w tx Q a0 v2 v5) out) : Go w 4 0 0 mtX4_settle 172 [(0, .ref 387), (1, .int a0), (2, .int v2), (3, .ref 389), (4, .ref 388), (5, .int v5), (6, .int v6), (7, .int v7), (8, .int v8), (9, .int v9)] [.int s1, .ref 387] (go_mk tx μ) (go_Z w Q) := by
  unfold jjX4_settle_172_110 at h
  refine go_iload dX4_settle_172 8 rfl ?_
  refine go_iload dX4_settle_174 6 rfl ?_
  refine go_iload dX4_settle_176 9 rfl ?_
  obtain ⟨q10, hq10, h⟩ := go_bind h
  refine pp_callV (as := [.int s1, .int v8, .int v6, .int v9]) (st := []) (rv := (some (.int q10))) (μ1 := μ) (st1 := [.int q10]) dX4_settle_178 ll_X4_74 sh_387 (by decide) rfl (ctX4_likesMore  hq10) rfl (Nat.le_of_ble_eq_true rfl) (Nat.le_of_ble_eq_true rfl) (go_Z_up w _) rfl rfl ?_
  refine go_if_eq 212 dX4_settle_181 (by decide) (fun hc => ?_) (fun hc => ?_)
  · have h := go_ifp hc h
    refine go_iinc (v := (v7 + 1)) dX4_settle_212 7 rfl rfl (by decide) rfl ?_
    show Go w 4 0 0 mtX4_settle 215 [(7, .int (v7 + 1)), (0, .ref 387), (1, .int a0), (2, .int v2), (3, .ref 389), (4, .ref 388), (5, .int v5), (6, .int v6), (8, .int v8), (9, .int v9)] [] (go_mk tx μ) (go_Z w Q)
    refine go_goto 110 dX4_settle_215 (by decide) ?_
    cases h
    have hK : Go w 4 0 0 mtX4_settle 110 [(0, .ref 387), (1, .int a0), (2, .int v2), (3, .ref 389), (4, .ref 388), (5, .int v5), (6, .int v6), (7, .int (v7 + 1))] [] (go_mk tx μ) (go_Z w Q) := hK
    exact go_pick [1, 2, 3, 4, 5, 6, 7, 0] rfl hK
  · have h := go_ifn hc h
    refine go_aload_n dX4_settle_184 3 rfl ?_
    refine go_iload dX4_settle_185 6 rfl ?_
    refine go_iload dX4_settle_187 8 rfl ?_
    obtain ⟨hz12, h⟩ := go_chk_e h
    obtain ⟨μ11, hμ11, h⟩ := go_let_e h
    refine pp_ist dX4_settle_189 sh_389 hz12 hμ11 ?_
    refine go_aload dX4_settle_190 4 rfl ?_
    refine go_iload dX4_settle_192 8 rfl ?_
    refine go_iload dX4_settle_194 6 rfl ?_
    obtain ⟨hz14, h⟩ := go_chk_e h
    obtain ⟨μ13, hμ13, h⟩ := go_let_e h
    refine pp_ist dX4_settle_196 sh_388 hz14 hμ13 ?_
    refine go_iload dX4_settle_197 9 rfl ?_
    refine go_iconst (v := (-1)) dX4_settle_199 (by decide) ?_
    refine go_icmp_eq 208 dX4_settle_200 (by decide) (fun hc => ?_) (fun hc => ?_)
    · have h := go_ifp hc h
      refine go_pick [0, 1, 2, 3, 4, 5, 7, 9] rfl ?_
      exact jqX4_settle_208_110 w tx Q μ13 a0 v2 v5 v7 v9    _ h hK
    · have h := go_ifn hc h
      refine go_aload_n dX4_settle_203 3 rfl ?_
      refine go_iload dX4_settle_204 9 rfl ?_
      refine go_iconst (v := (-1)) dX4_settle_206 (by decide) ?_
      obtain ⟨hz16, h⟩ := go_chk_e h
      obtain ⟨μ15, hμ15, h⟩ := go_let_e h
      refine pp_ist dX4_settle_207 sh_389 hz16 hμ15 ?_
      refine go_pick [0, 1, 2, 3, 4, 5, 7, 9] rfl ?_
      exact jqX4_settle_208_110 w tx Q μ15 a0 v2 v5 v7 v9    _ h hK
set_option maxRecDepth 20000 in
set_option maxHeartbeats 4000000 in
theorem lqX4_settle_110 (w : go_Wd) (tx : Nat) (Q : Option Value → go_M → Prop) (a0 : Int32) (v2 : Int32) (v5 : Int32)  (v6 : Int32) (v7 : Int32) (μ : PM) (out : (Int32 × Int32 × PM) ⊕ ((PM) ⊕ ((Int32 × PM) ⊕ (PM)))) (h : lbX4_settle_110 a0 v2 v5 v6 v7 μ = some out) (hK : go_out (ggX4_settle_110 w tx Q a0 v2 v5) (eeX4_settle_110 w tx Q a0 v2 v5) out) : ggX4_settle_110 w tx Q a0 v2 v5 (v6, v7, μ) := by
  unfold lbX4_settle_110 at h
  show Go w 4 0 0 mtX4_settle 110 [(0, .ref 387), (1, .int a0), (2, .int v2), (3, .ref 389), (4, .ref 388), (5, .int v5), (6, .int v6), (7, .int v7)] [] (go_mk tx μ) (go_Z w Q)
  refine go_iload dX4_settle_110 7 rfl ?_
  refine go_bipush (v := 30) dX4_settle_112 (by decide) ?_
  refine go_icmp_gt 218 dX4_settle_114 (by decide) (fun hc => ?_) (fun hc => ?_)
  · have h := go_ifp hc h
    cases h
    have hK : Go w 4 0 0 mtX4_settle 218 [(0, .ref 387), (1, .int a0), (2, .int v2), (3, .ref 389), (4, .ref 388), (5, .int v5)] [] (go_mk tx μ) (go_Z w Q) := hK
    exact go_pick [0, 1, 2, 3, 4, 5] rfl hK
  · have h := go_ifn hc h
    refine go_iload dX4_settle_117 6 rfl ?_
    refine go_iconst (v := (-1)) dX4_settle_119 (by decide) ?_
    refine go_icmp_eq 218 dX4_settle_120 (by decide) (fun hc => ?_) (fun hc => ?_)
    · have h := go_ifp hc h
      cases h
      have hK : Go w 4 0 0 mtX4_settle 218 [(0, .ref 387), (1, .int a0), (2, .int v2), (3, .ref 389), (4, .ref 388), (5, .int v5)] [] (go_mk tx μ) (go_Z w Q) := hK
      exact go_pick [0, 1, 2, 3, 4, 5] rfl hK
    · have h := go_ifn hc h
      refine go_aload_n dX4_settle_123 0 rfl ?_
      refine go_iload_n dX4_settle_124 1 rfl ?_
      refine go_iload dX4_settle_125 6 rfl ?_
      obtain ⟨q4, hq4, h⟩ := go_bind h
      refine pp_callV (as := [.int a0, .int v6]) (st := []) (rv := (some (.int q4))) (μ1 := μ) (st1 := [.int q4]) dX4_settle_127 ll_X4_89 sh_387 (by decide) rfl (ctX4_bestToAsk  hq4) rfl (Nat.le_of_ble_eq_true rfl) (Nat.le_of_ble_eq_true rfl) (go_Z_up w _) rfl rfl ?_
      refine go_istore dX4_settle_130 (by decide) rfl ?_
      show Go w 4 0 0 mtX4_settle 132 [(8, .int q4), (0, .ref 387), (1, .int a0), (2, .int v2), (3, .ref 389), (4, .ref 388), (5, .int v5), (6, .int v6), (7, .int v7)] [] (go_mk tx μ) (go_Z w Q)
      refine go_iload dX4_settle_132 0 rfl ?_
      refine go_iconst (v := (-1)) dX4_settle_134 (by decide) ?_
      refine go_icmp_ne 141 dX4_settle_135 (by decide) (fun hc => ?_) (fun hc => ?_)
      · have h := go_ifn hc h
        refine go_aload_n dX4_settle_141 1 rfl ?_
        refine pp_getR dX4_settle_142 ff_X4_18 (Or.inr ⟨_, rfl⟩) sh_387 rf_387_3 ?_
        refine go_iload dX4_settle_145 7 rfl ?_
        refine go_dup2 dX4_settle_147 rfl rfl ?_
        obtain ⟨hz5, h⟩ := go_chk_e h
        refine pp_ild dX4_settle_148 sh_390 hz5 ?_
        refine go_iconst (v := 1) dX4_settle_149 (by decide) ?_
        refine go_iload dX4_settle_150 0 rfl ?_
        refine go_ishl dX4_settle_152 ?_
        refine go_ior dX4_settle_153 ?_
        obtain ⟨hz7, h⟩ := go_chk_e h
        obtain ⟨μ6, hμ6, h⟩ := go_let_e h
        refine pp_ist dX4_settle_154 sh_390 hz7 hμ6 ?_
        refine go_aload dX4_settle_155 5 rfl ?_
        refine go_iload dX4_settle_157 0 rfl ?_
        obtain ⟨hz8, h⟩ := go_chk_e h
        refine pp_ild dX4_settle_159 sh_388 hz8 ?_
        obtain ⟨x9, hx9, h⟩ := go_let_e h
        refine go_top hx9 ?_
        refine go_istore dX4_settle_160 (by decide) rfl ?_
        show Go w 4 0 0 mtX4_settle 162 [(9, .int x9), (8, .int q4), (0, .ref 387), (1, .int a0), (2, .int v2), (3, .ref 389), (4, .ref 388), (5, .int v5), (6, .int v6), (7, .int v7)] [] (go_mk tx μ6) (go_Z w Q)
        refine go_aload_n dX4_settle_162 2 rfl ?_
        refine go_iload_n dX4_settle_163 3 rfl ?_
        refine go_if_ne 171 dX4_settle_164 (by decide) (fun hc => ?_) (fun hc => ?_)
        · have h := go_ifn hc h
          refine go_iconst (v := 0) dX4_settle_171 (by decide) ?_
          refine go_pick [2, 3, 4, 5, 6, 7, 8, 9, 1, 0] rfl ?_
          exact jqX4_settle_172_110 w tx Q μ6 a0 v2 v5 v6 v7 q4 x9  0 (Or.inl rfl) _ h hK
        · have h := go_ifp hc h
          refine go_iconst (v := 1) dX4_settle_167 (by decide) ?_
          refine go_goto 172 dX4_settle_168 (by decide) ?_
          refine go_pick [2, 3, 4, 5, 6, 7, 8, 9, 1, 0] rfl ?_
          exact jqX4_settle_172_110 w tx Q μ6 a0 v2 v5 v6 v7 q4 x9  1 (Or.inr rfl) _ h hK
      · have h := go_ifp hc h
        refine go_goto 218 dX4_settle_138 (by decide) ?_
        cases h
        have hK : Go w 4 0 0 mtX4_settle 218 [(0, .ref 387), (1, .int a0), (2, .int v2), (3, .ref 389), (4, .ref 388), (5, .int v5)] [] (go_mk tx μ) (go_Z w Q) := hK
        exact go_pick [1, 2, 3, 4, 5, 6] rfl hK
set_option maxRecDepth 20000 in
set_option maxHeartbeats 4000000 in
theorem lqX4_settle_97 (w : go_Wd) (tx : Nat) (Q : Option Value → go_M → Prop) (a0 : Int32) (v2 : Int32)  (v5 : Int32) (μ : PM) (out : (Int32 × PM) ⊕ (PM)) (h : lbX4_settle_97 a0 v2 v5 μ = some out) (hK : go_out (ggX4_settle_97 w tx Q a0 v2) (eeX4_settle_97 w tx Q a0 v2) out) : ggX4_settle_97 w tx Q a0 v2 (v5, μ) := by
  unfold lbX4_settle_97 at h
  show Go w 4 0 0 mtX4_settle 97 [(0, .ref 387), (1, .int a0), (2, .int v2), (3, .ref 389), (4, .ref 388), (5, .int v5)] [] (go_mk tx μ) (go_Z w Q)
  refine go_iload dX4_settle_97 5 rfl ?_
  refine go_iload_n dX4_settle_99 2 rfl ?_
  refine go_icmp_ge 224 dX4_settle_100 (by decide) (fun hc => ?_) (fun hc => ?_)
  · have h := go_ifp hc h
    cases h
    exact go_vret dX4_settle_224 rfl hK
  · have h := go_ifn hc h
    refine go_iload dX4_settle_103 5 rfl ?_
    refine go_istore dX4_settle_105 (by decide) rfl ?_
    show Go w 4 0 0 mtX4_settle 107 [(6, .int v5), (0, .ref 387), (1, .int a0), (2, .int v2), (3, .ref 389), (4, .ref 388), (5, .int v5)] [] (go_mk tx μ) (go_Z w Q)
    refine go_iconst (v := 0) dX4_settle_107 (by decide) ?_
    refine go_istore dX4_settle_108 (by decide) rfl ?_
    show Go w 4 0 0 mtX4_settle 110 [(7, .int 0), (6, .int v5), (0, .ref 387), (1, .int a0), (2, .int v2), (3, .ref 389), (4, .ref 388), (5, .int v5)] [] (go_mk tx μ) (go_Z w Q)
    obtain ⟨ρ17, hρ17, h⟩ := go_bind h
    refine go_pick [2, 3, 4, 5, 6, 7, 1, 0] rfl ?_
    refine go_lp (G := ggX4_settle_110 w tx Q a0 v2 v5) (E := eeX4_settle_110 w tx Q a0 v2 v5) (fun s out h hK => lqX4_settle_110 w tx Q a0 v2 v5  s.1 s.2.1 s.2.2 out h hK) go_fuel (v5, 0, μ) ρ17 hρ17 ?_
    rcases ρ17 with e18 | y
    · have h := go_csl h
      show Go w 4 0 0 mtX4_settle 218 [(0, .ref 387), (1, .int a0), (2, .int v2), (3, .ref 389), (4, .ref 388), (5, .int v5)] [] (go_mk tx e18) (go_Z w Q)
      refine go_iinc (v := (v5 + 1)) dX4_settle_218 5 rfl rfl (by decide) rfl ?_
      show Go w 4 0 0 mtX4_settle 221 [(5, .int (v5 + 1)), (0, .ref 387), (1, .int a0), (2, .int v2), (3, .ref 389), (4, .ref 388)] [] (go_mk tx e18) (go_Z w Q)
      refine go_goto 97 dX4_settle_221 (by decide) ?_
      cases h
      have hK : Go w 4 0 0 mtX4_settle 97 [(0, .ref 387), (1, .int a0), (2, .int v2), (3, .ref 389), (4, .ref 388), (5, .int (v5 + 1))] [] (go_mk tx e18) (go_Z w Q) := hK
      exact go_pick [1, 2, 3, 4, 5, 0] rfl hK
    · have h := go_csr h
      cases h
      exact hK
set_option maxRecDepth 20000 in
set_option maxHeartbeats 4000000 in
theorem jqX4_settle_92 (w : go_Wd) (tx : Nat) (Q : Option Value → go_M → Prop) (μ : PM) (a0 : Int32) (v2 : Int32)    (out : PM) (h : jjX4_settle_92 μ a0 v2  = some out) (hK : Q none (go_mk tx out)) : Go w 4 0 0 mtX4_settle 92 [(0, .ref 387), (1, .int a0), (2, .int v2), (3, .ref 389)] [.ref 388] (go_mk tx μ) (go_Z w Q) := by
  unfold jjX4_settle_92 at h
  refine go_astore dX4_settle_92 (by decide) rfl ?_
  show Go w 4 0 0 mtX4_settle 94 [(4, .ref 388), (0, .ref 387), (1, .int a0), (2, .int v2), (3, .ref 389)] [] (go_mk tx μ) (go_Z w Q)
  refine go_iconst (v := 0) dX4_settle_94 (by decide) ?_
  refine go_istore dX4_settle_95 (by decide) rfl ?_
  show Go w 4 0 0 mtX4_settle 97 [(5, .int 0), (4, .ref 388), (0, .ref 387), (1, .int a0), (2, .int v2), (3, .ref 389)] [] (go_mk tx μ) (go_Z w Q)
  obtain ⟨ρ19, hρ19, h⟩ := go_bind h
  refine go_pick [2, 3, 4, 5, 1, 0] rfl ?_
  refine go_lp (G := ggX4_settle_97 w tx Q a0 v2) (E := eeX4_settle_97 w tx Q a0 v2) (fun s out h hK => lqX4_settle_97 w tx Q a0 v2  s.1 s.2 out h hK) go_fuel (0, μ) ρ19 hρ19 ?_
  cases h
  exact hK
set_option maxRecDepth 20000 in
set_option maxHeartbeats 4000000 in
theorem jqX4_settle_208_110_b (w : go_Wd) (tx : Nat) (Q : Option Value → go_M → Prop) (μ : PM) (a0 : Int32) (v2 : Int32) (v5 : Int32) (v7 : Int32) (v9 : Int32)    (out : (Int32 × Int32 × PM) ⊕ ((PM) ⊕ ((Int32 × PM) ⊕ (PM)))) (h : jjX4_settle_208_110_b μ a0 v2 v5 v7 v9  = some out) (hK : go_out (ggX4_settle_110_b w tx Q a0 v2 v5) (eeX4_settle_110_b w tx Q a0 v2 v5) out) : Go w 4 0 0 mtX4_settle 208 [(0, .ref 387), (1, .int a0), (2, .int v2), (3, .ref 389), (4, .ref 389), (5, .int v5), (7, .int v7), (9, .int v9)] [] (go_mk tx μ) (go_Z w Q) := by
  unfold jjX4_settle_208_110_b at h
  refine go_iload dX4_settle_208 7 rfl ?_
  refine go_istore dX4_settle_210 (by decide) rfl ?_
  show Go w 4 0 0 mtX4_settle 212 [(6, .int v9), (0, .ref 387), (1, .int a0), (2, .int v2), (3, .ref 389), (4, .ref 389), (5, .int v5), (7, .int v7), (9, .int v9)] [] (go_mk tx μ) (go_Z w Q)
  refine go_iinc (v := (v7 + 1)) dX4_settle_212 7 rfl rfl (by decide) rfl ?_
  show Go w 4 0 0 mtX4_settle 215 [(7, .int (v7 + 1)), (6, .int v9), (0, .ref 387), (1, .int a0), (2, .int v2), (3, .ref 389), (4, .ref 389), (5, .int v5), (9, .int v9)] [] (go_mk tx μ) (go_Z w Q)
  refine go_goto 110 dX4_settle_215 (by decide) ?_
  cases h
  have hK : Go w 4 0 0 mtX4_settle 110 [(0, .ref 387), (1, .int a0), (2, .int v2), (3, .ref 389), (4, .ref 389), (5, .int v5), (6, .int v9), (7, .int (v7 + 1))] [] (go_mk tx μ) (go_Z w Q) := hK
  exact go_pick [2, 3, 4, 5, 6, 7, 1, 0] rfl hK
set_option maxRecDepth 20000 in
set_option maxHeartbeats 4000000 in
theorem jqX4_settle_172_110_b (w : go_Wd) (tx : Nat) (Q : Option Value → go_M → Prop) (μ : PM) (a0 : Int32) (v2 : Int32) (v5 : Int32) (v6 : Int32) (v7 : Int32) (v8 : Int32) (v9 : Int32)  (s1 : Int32) (hs1 : s1 = 0 ∨ s1 = 1) (out : (Int32 × Int32 × PM) ⊕ ((PM) ⊕ ((Int32 × PM) ⊕ (PM)))) (h : jjX4_settle_172_110_b μ a0 v2 v5 v6 v7 v8 v9 s1 = some out) (hK : go_out (ggX4_settle_110_b w tx Q a0 v2 v5) (eeX4_settle_110_b w tx Q a0 v2 v5) out) : Go w 4 0 0 mtX4_settle 172 [(0, .ref 387), (1, .int a0), (2, .int v2), (3, .ref 389), (4, .ref 389), (5, .int v5), (6, .int v6), (7, .int v7), (8, .int v8), (9, .int v9)] [.int s1, .ref 387] (go_mk tx μ) (go_Z w Q) := by
  unfold jjX4_settle_172_110_b at h
  refine go_iload dX4_settle_172 8 rfl ?_
  refine go_iload dX4_settle_174 6 rfl ?_
  refine go_iload dX4_settle_176 9 rfl ?_
  obtain ⟨q26, hq26, h⟩ := go_bind h
  refine pp_callV (as := [.int s1, .int v8, .int v6, .int v9]) (st := []) (rv := (some (.int q26))) (μ1 := μ) (st1 := [.int q26]) dX4_settle_178 ll_X4_74 sh_387 (by decide) rfl (ctX4_likesMore  hq26) rfl (Nat.le_of_ble_eq_true rfl) (Nat.le_of_ble_eq_true rfl) (go_Z_up w _) rfl rfl ?_
  refine go_if_eq 212 dX4_settle_181 (by decide) (fun hc => ?_) (fun hc => ?_)
  · have h := go_ifp hc h
    refine go_iinc (v := (v7 + 1)) dX4_settle_212 7 rfl rfl (by decide) rfl ?_
    show Go w 4 0 0 mtX4_settle 215 [(7, .int (v7 + 1)), (0, .ref 387), (1, .int a0), (2, .int v2), (3, .ref 389), (4, .ref 389), (5, .int v5), (6, .int v6), (8, .int v8), (9, .int v9)] [] (go_mk tx μ) (go_Z w Q)
    refine go_goto 110 dX4_settle_215 (by decide) ?_
    cases h
    have hK : Go w 4 0 0 mtX4_settle 110 [(0, .ref 387), (1, .int a0), (2, .int v2), (3, .ref 389), (4, .ref 389), (5, .int v5), (6, .int v6), (7, .int (v7 + 1))] [] (go_mk tx μ) (go_Z w Q) := hK
    exact go_pick [1, 2, 3, 4, 5, 6, 7, 0] rfl hK
  · have h := go_ifn hc h
    refine go_aload_n dX4_settle_184 3 rfl ?_
    refine go_iload dX4_settle_185 6 rfl ?_
    refine go_iload dX4_settle_187 8 rfl ?_
    obtain ⟨hz28, h⟩ := go_chk_e h
    obtain ⟨μ27, hμ27, h⟩ := go_let_e h
    refine pp_ist dX4_settle_189 sh_389 hz28 hμ27 ?_
    refine go_aload dX4_settle_190 4 rfl ?_
    refine go_iload dX4_settle_192 8 rfl ?_
    refine go_iload dX4_settle_194 6 rfl ?_
    obtain ⟨hz30, h⟩ := go_chk_e h
    obtain ⟨μ29, hμ29, h⟩ := go_let_e h
    refine pp_ist dX4_settle_196 sh_389 hz30 hμ29 ?_
    refine go_iload dX4_settle_197 9 rfl ?_
    refine go_iconst (v := (-1)) dX4_settle_199 (by decide) ?_
    refine go_icmp_eq 208 dX4_settle_200 (by decide) (fun hc => ?_) (fun hc => ?_)
    · have h := go_ifp hc h
      refine go_pick [0, 1, 2, 3, 4, 5, 7, 9] rfl ?_
      exact jqX4_settle_208_110_b w tx Q μ29 a0 v2 v5 v7 v9    _ h hK
    · have h := go_ifn hc h
      refine go_aload_n dX4_settle_203 3 rfl ?_
      refine go_iload dX4_settle_204 9 rfl ?_
      refine go_iconst (v := (-1)) dX4_settle_206 (by decide) ?_
      obtain ⟨hz32, h⟩ := go_chk_e h
      obtain ⟨μ31, hμ31, h⟩ := go_let_e h
      refine pp_ist dX4_settle_207 sh_389 hz32 hμ31 ?_
      refine go_pick [0, 1, 2, 3, 4, 5, 7, 9] rfl ?_
      exact jqX4_settle_208_110_b w tx Q μ31 a0 v2 v5 v7 v9    _ h hK
set_option maxRecDepth 20000 in
set_option maxHeartbeats 4000000 in
theorem lqX4_settle_110_b (w : go_Wd) (tx : Nat) (Q : Option Value → go_M → Prop) (a0 : Int32) (v2 : Int32) (v5 : Int32)  (v6 : Int32) (v7 : Int32) (μ : PM) (out : (Int32 × Int32 × PM) ⊕ ((PM) ⊕ ((Int32 × PM) ⊕ (PM)))) (h : lbX4_settle_110_b a0 v2 v5 v6 v7 μ = some out) (hK : go_out (ggX4_settle_110_b w tx Q a0 v2 v5) (eeX4_settle_110_b w tx Q a0 v2 v5) out) : ggX4_settle_110_b w tx Q a0 v2 v5 (v6, v7, μ) := by
  unfold lbX4_settle_110_b at h
  show Go w 4 0 0 mtX4_settle 110 [(0, .ref 387), (1, .int a0), (2, .int v2), (3, .ref 389), (4, .ref 389), (5, .int v5), (6, .int v6), (7, .int v7)] [] (go_mk tx μ) (go_Z w Q)
  refine go_iload dX4_settle_110 7 rfl ?_
  refine go_bipush (v := 30) dX4_settle_112 (by decide) ?_
  refine go_icmp_gt 218 dX4_settle_114 (by decide) (fun hc => ?_) (fun hc => ?_)
  · have h := go_ifp hc h
    cases h
    have hK : Go w 4 0 0 mtX4_settle 218 [(0, .ref 387), (1, .int a0), (2, .int v2), (3, .ref 389), (4, .ref 389), (5, .int v5)] [] (go_mk tx μ) (go_Z w Q) := hK
    exact go_pick [0, 1, 2, 3, 4, 5] rfl hK
  · have h := go_ifn hc h
    refine go_iload dX4_settle_117 6 rfl ?_
    refine go_iconst (v := (-1)) dX4_settle_119 (by decide) ?_
    refine go_icmp_eq 218 dX4_settle_120 (by decide) (fun hc => ?_) (fun hc => ?_)
    · have h := go_ifp hc h
      cases h
      have hK : Go w 4 0 0 mtX4_settle 218 [(0, .ref 387), (1, .int a0), (2, .int v2), (3, .ref 389), (4, .ref 389), (5, .int v5)] [] (go_mk tx μ) (go_Z w Q) := hK
      exact go_pick [0, 1, 2, 3, 4, 5] rfl hK
    · have h := go_ifn hc h
      refine go_aload_n dX4_settle_123 0 rfl ?_
      refine go_iload_n dX4_settle_124 1 rfl ?_
      refine go_iload dX4_settle_125 6 rfl ?_
      obtain ⟨q20, hq20, h⟩ := go_bind h
      refine pp_callV (as := [.int a0, .int v6]) (st := []) (rv := (some (.int q20))) (μ1 := μ) (st1 := [.int q20]) dX4_settle_127 ll_X4_89 sh_387 (by decide) rfl (ctX4_bestToAsk  hq20) rfl (Nat.le_of_ble_eq_true rfl) (Nat.le_of_ble_eq_true rfl) (go_Z_up w _) rfl rfl ?_
      refine go_istore dX4_settle_130 (by decide) rfl ?_
      show Go w 4 0 0 mtX4_settle 132 [(8, .int q20), (0, .ref 387), (1, .int a0), (2, .int v2), (3, .ref 389), (4, .ref 389), (5, .int v5), (6, .int v6), (7, .int v7)] [] (go_mk tx μ) (go_Z w Q)
      refine go_iload dX4_settle_132 0 rfl ?_
      refine go_iconst (v := (-1)) dX4_settle_134 (by decide) ?_
      refine go_icmp_ne 141 dX4_settle_135 (by decide) (fun hc => ?_) (fun hc => ?_)
      · have h := go_ifn hc h
        refine go_aload_n dX4_settle_141 1 rfl ?_
        refine pp_getR dX4_settle_142 ff_X4_18 (Or.inr ⟨_, rfl⟩) sh_387 rf_387_3 ?_
        refine go_iload dX4_settle_145 7 rfl ?_
        refine go_dup2 dX4_settle_147 rfl rfl ?_
        obtain ⟨hz21, h⟩ := go_chk_e h
        refine pp_ild dX4_settle_148 sh_390 hz21 ?_
        refine go_iconst (v := 1) dX4_settle_149 (by decide) ?_
        refine go_iload dX4_settle_150 0 rfl ?_
        refine go_ishl dX4_settle_152 ?_
        refine go_ior dX4_settle_153 ?_
        obtain ⟨hz23, h⟩ := go_chk_e h
        obtain ⟨μ22, hμ22, h⟩ := go_let_e h
        refine pp_ist dX4_settle_154 sh_390 hz23 hμ22 ?_
        refine go_aload dX4_settle_155 5 rfl ?_
        refine go_iload dX4_settle_157 0 rfl ?_
        obtain ⟨hz24, h⟩ := go_chk_e h
        refine pp_ild dX4_settle_159 sh_389 hz24 ?_
        obtain ⟨x25, hx25, h⟩ := go_let_e h
        refine go_top hx25 ?_
        refine go_istore dX4_settle_160 (by decide) rfl ?_
        show Go w 4 0 0 mtX4_settle 162 [(9, .int x25), (8, .int q20), (0, .ref 387), (1, .int a0), (2, .int v2), (3, .ref 389), (4, .ref 389), (5, .int v5), (6, .int v6), (7, .int v7)] [] (go_mk tx μ22) (go_Z w Q)
        refine go_aload_n dX4_settle_162 2 rfl ?_
        refine go_iload_n dX4_settle_163 3 rfl ?_
        refine go_if_ne 171 dX4_settle_164 (by decide) (fun hc => ?_) (fun hc => ?_)
        · have h := go_ifn hc h
          refine go_iconst (v := 0) dX4_settle_171 (by decide) ?_
          refine go_pick [2, 3, 4, 5, 6, 7, 8, 9, 1, 0] rfl ?_
          exact jqX4_settle_172_110_b w tx Q μ22 a0 v2 v5 v6 v7 q20 x25  0 (Or.inl rfl) _ h hK
        · have h := go_ifp hc h
          refine go_iconst (v := 1) dX4_settle_167 (by decide) ?_
          refine go_goto 172 dX4_settle_168 (by decide) ?_
          refine go_pick [2, 3, 4, 5, 6, 7, 8, 9, 1, 0] rfl ?_
          exact jqX4_settle_172_110_b w tx Q μ22 a0 v2 v5 v6 v7 q20 x25  1 (Or.inr rfl) _ h hK
      · have h := go_ifp hc h
        refine go_goto 218 dX4_settle_138 (by decide) ?_
        cases h
        have hK : Go w 4 0 0 mtX4_settle 218 [(0, .ref 387), (1, .int a0), (2, .int v2), (3, .ref 389), (4, .ref 389), (5, .int v5)] [] (go_mk tx μ) (go_Z w Q) := hK
        exact go_pick [1, 2, 3, 4, 5, 6] rfl hK
set_option maxRecDepth 20000 in
set_option maxHeartbeats 4000000 in
theorem lqX4_settle_97_b (w : go_Wd) (tx : Nat) (Q : Option Value → go_M → Prop) (a0 : Int32) (v2 : Int32)  (v5 : Int32) (μ : PM) (out : (Int32 × PM) ⊕ (PM)) (h : lbX4_settle_97_b a0 v2 v5 μ = some out) (hK : go_out (ggX4_settle_97_b w tx Q a0 v2) (eeX4_settle_97_b w tx Q a0 v2) out) : ggX4_settle_97_b w tx Q a0 v2 (v5, μ) := by
  unfold lbX4_settle_97_b at h
  show Go w 4 0 0 mtX4_settle 97 [(0, .ref 387), (1, .int a0), (2, .int v2), (3, .ref 389), (4, .ref 389), (5, .int v5)] [] (go_mk tx μ) (go_Z w Q)
  refine go_iload dX4_settle_97 5 rfl ?_
  refine go_iload_n dX4_settle_99 2 rfl ?_
  refine go_icmp_ge 224 dX4_settle_100 (by decide) (fun hc => ?_) (fun hc => ?_)
  · have h := go_ifp hc h
    cases h
    exact go_vret dX4_settle_224 rfl hK
  · have h := go_ifn hc h
    refine go_iload dX4_settle_103 5 rfl ?_
    refine go_istore dX4_settle_105 (by decide) rfl ?_
    show Go w 4 0 0 mtX4_settle 107 [(6, .int v5), (0, .ref 387), (1, .int a0), (2, .int v2), (3, .ref 389), (4, .ref 389), (5, .int v5)] [] (go_mk tx μ) (go_Z w Q)
    refine go_iconst (v := 0) dX4_settle_107 (by decide) ?_
    refine go_istore dX4_settle_108 (by decide) rfl ?_
    show Go w 4 0 0 mtX4_settle 110 [(7, .int 0), (6, .int v5), (0, .ref 387), (1, .int a0), (2, .int v2), (3, .ref 389), (4, .ref 389), (5, .int v5)] [] (go_mk tx μ) (go_Z w Q)
    obtain ⟨ρ33, hρ33, h⟩ := go_bind h
    refine go_pick [2, 3, 4, 5, 6, 7, 1, 0] rfl ?_
    refine go_lp (G := ggX4_settle_110_b w tx Q a0 v2 v5) (E := eeX4_settle_110_b w tx Q a0 v2 v5) (fun s out h hK => lqX4_settle_110_b w tx Q a0 v2 v5  s.1 s.2.1 s.2.2 out h hK) go_fuel (v5, 0, μ) ρ33 hρ33 ?_
    rcases ρ33 with e34 | y
    · have h := go_csl h
      show Go w 4 0 0 mtX4_settle 218 [(0, .ref 387), (1, .int a0), (2, .int v2), (3, .ref 389), (4, .ref 389), (5, .int v5)] [] (go_mk tx e34) (go_Z w Q)
      refine go_iinc (v := (v5 + 1)) dX4_settle_218 5 rfl rfl (by decide) rfl ?_
      show Go w 4 0 0 mtX4_settle 221 [(5, .int (v5 + 1)), (0, .ref 387), (1, .int a0), (2, .int v2), (3, .ref 389), (4, .ref 389)] [] (go_mk tx e34) (go_Z w Q)
      refine go_goto 97 dX4_settle_221 (by decide) ?_
      cases h
      have hK : Go w 4 0 0 mtX4_settle 97 [(0, .ref 387), (1, .int a0), (2, .int v2), (3, .ref 389), (4, .ref 389), (5, .int (v5 + 1))] [] (go_mk tx e34) (go_Z w Q) := hK
      exact go_pick [1, 2, 3, 4, 5, 0] rfl hK
    · have h := go_csr h
      cases h
      exact hK
set_option maxRecDepth 20000 in
set_option maxHeartbeats 4000000 in
theorem jqX4_settle_92_b (w : go_Wd) (tx : Nat) (Q : Option Value → go_M → Prop) (μ : PM) (a0 : Int32) (v2 : Int32)    (out : PM) (h : jjX4_settle_92_b μ a0 v2  = some out) (hK : Q none (go_mk tx out)) : Go w 4 0 0 mtX4_settle 92 [(0, .ref 387), (1, .int a0), (2, .int v2), (3, .ref 389)] [.ref 389] (go_mk tx μ) (go_Z w Q) := by
  unfold jjX4_settle_92_b at h
  refine go_astore dX4_settle_92 (by decide) rfl ?_
  show Go w 4 0 0 mtX4_settle 94 [(4, .ref 389), (0, .ref 387), (1, .int a0), (2, .int v2), (3, .ref 389)] [] (go_mk tx μ) (go_Z w Q)
  refine go_iconst (v := 0) dX4_settle_94 (by decide) ?_
  refine go_istore dX4_settle_95 (by decide) rfl ?_
  show Go w 4 0 0 mtX4_settle 97 [(5, .int 0), (4, .ref 389), (0, .ref 387), (1, .int a0), (2, .int v2), (3, .ref 389)] [] (go_mk tx μ) (go_Z w Q)
  obtain ⟨ρ35, hρ35, h⟩ := go_bind h
  refine go_pick [2, 3, 4, 5, 1, 0] rfl ?_
  refine go_lp (G := ggX4_settle_97_b w tx Q a0 v2) (E := eeX4_settle_97_b w tx Q a0 v2) (fun s out h hK => lqX4_settle_97_b w tx Q a0 v2  s.1 s.2 out h hK) go_fuel (0, μ) ρ35 hρ35 ?_
  cases h
  exact hK
set_option maxRecDepth 20000 in
set_option maxHeartbeats 4000000 in
theorem jqX4_settle_76 (w : go_Wd) (tx : Nat) (Q : Option Value → go_M → Prop) (μ : PM) (a0 : Int32) (v2 : Int32)    (out : PM) (h : jjX4_settle_76 μ a0 v2  = some out) (hK : Q none (go_mk tx out)) : Go w 4 0 0 mtX4_settle 76 [(0, .ref 387), (1, .int a0), (2, .int v2)] [.ref 389] (go_mk tx μ) (go_Z w Q) := by
  unfold jjX4_settle_76 at h
  refine go_astore_n dX4_settle_76 (by decide) rfl ?_
  show Go w 4 0 0 mtX4_settle 77 [(3, .ref 389), (0, .ref 387), (1, .int a0), (2, .int v2)] [] (go_mk tx μ) (go_Z w Q)
  refine go_iload_n dX4_settle_77 2 rfl ?_
  refine go_if_eq 88 dX4_settle_78 (by decide) (fun hc => ?_) (fun hc => ?_)
  · have h := go_ifp hc h
    refine go_aload_n dX4_settle_88 1 rfl ?_
    refine pp_getR dX4_settle_89 ff_X4_9 (Or.inr ⟨_, rfl⟩) sh_387 rf_387_1 ?_
    refine go_pick [1, 2, 3, 0] rfl ?_
    exact jqX4_settle_92 w tx Q μ a0 v2    _ h hK
  · have h := go_ifn hc h
    refine go_aload_n dX4_settle_81 1 rfl ?_
    refine pp_getR dX4_settle_82 ff_X4_15 (Or.inr ⟨_, rfl⟩) sh_387 rf_387_2 ?_
    refine go_goto 92 dX4_settle_85 (by decide) ?_
    refine go_pick [1, 2, 3, 0] rfl ?_
    exact jqX4_settle_92_b w tx Q μ a0 v2    _ h hK
set_option maxRecDepth 20000 in
set_option maxHeartbeats 4000000 in
theorem jqX4_settle_208_110_c (w : go_Wd) (tx : Nat) (Q : Option Value → go_M → Prop) (μ : PM) (a0 : Int32) (v2 : Int32) (v5 : Int32) (v7 : Int32) (v9 : Int32)    (out : (Int32 × Int32 × PM) ⊕ ((PM) ⊕ ((Int32 × PM) ⊕ (PM)))) (h : jjX4_settle_208_110_c μ a0 v2 v5 v7 v9  = some out) (hK : go_out (ggX4_settle_110_c w tx Q a0 v2 v5) (eeX4_settle_110_c w tx Q a0 v2 v5) out) : Go w 4 0 0 mtX4_settle 208 [(0, .ref 387), (1, .int a0), (2, .int v2), (3, .ref 388), (4, .ref 388), (5, .int v5), (7, .int v7), (9, .int v9)] [] (go_mk tx μ) (go_Z w Q) := by
  unfold jjX4_settle_208_110_c at h
  refine go_iload dX4_settle_208 7 rfl ?_
  refine go_istore dX4_settle_210 (by decide) rfl ?_
  show Go w 4 0 0 mtX4_settle 212 [(6, .int v9), (0, .ref 387), (1, .int a0), (2, .int v2), (3, .ref 388), (4, .ref 388), (5, .int v5), (7, .int v7), (9, .int v9)] [] (go_mk tx μ) (go_Z w Q)
  refine go_iinc (v := (v7 + 1)) dX4_settle_212 7 rfl rfl (by decide) rfl ?_
  show Go w 4 0 0 mtX4_settle 215 [(7, .int (v7 + 1)), (6, .int v9), (0, .ref 387), (1, .int a0), (2, .int v2), (3, .ref 388), (4, .ref 388), (5, .int v5), (9, .int v9)] [] (go_mk tx μ) (go_Z w Q)
  refine go_goto 110 dX4_settle_215 (by decide) ?_
  cases h
  have hK : Go w 4 0 0 mtX4_settle 110 [(0, .ref 387), (1, .int a0), (2, .int v2), (3, .ref 388), (4, .ref 388), (5, .int v5), (6, .int v9), (7, .int (v7 + 1))] [] (go_mk tx μ) (go_Z w Q) := hK
  exact go_pick [2, 3, 4, 5, 6, 7, 1, 0] rfl hK
set_option maxRecDepth 20000 in
set_option maxHeartbeats 4000000 in
theorem jqX4_settle_172_110_c (w : go_Wd) (tx : Nat) (Q : Option Value → go_M → Prop) (μ : PM) (a0 : Int32) (v2 : Int32) (v5 : Int32) (v6 : Int32) (v7 : Int32) (v8 : Int32) (v9 : Int32)  (s1 : Int32) (hs1 : s1 = 0 ∨ s1 = 1) (out : (Int32 × Int32 × PM) ⊕ ((PM) ⊕ ((Int32 × PM) ⊕ (PM)))) (h : jjX4_settle_172_110_c μ a0 v2 v5 v6 v7 v8 v9 s1 = some out) (hK : go_out (ggX4_settle_110_c w tx Q a0 v2 v5) (eeX4_settle_110_c w tx Q a0 v2 v5) out) : Go w 4 0 0 mtX4_settle 172 [(0, .ref 387), (1, .int a0), (2, .int v2), (3, .ref 388), (4, .ref 388), (5, .int v5), (6, .int v6), (7, .int v7), (8, .int v8), (9, .int v9)] [.int s1, .ref 387] (go_mk tx μ) (go_Z w Q) := by
  unfold jjX4_settle_172_110_c at h
  refine go_iload dX4_settle_172 8 rfl ?_
  refine go_iload dX4_settle_174 6 rfl ?_
  refine go_iload dX4_settle_176 9 rfl ?_
  obtain ⟨q42, hq42, h⟩ := go_bind h
  refine pp_callV (as := [.int s1, .int v8, .int v6, .int v9]) (st := []) (rv := (some (.int q42))) (μ1 := μ) (st1 := [.int q42]) dX4_settle_178 ll_X4_74 sh_387 (by decide) rfl (ctX4_likesMore  hq42) rfl (Nat.le_of_ble_eq_true rfl) (Nat.le_of_ble_eq_true rfl) (go_Z_up w _) rfl rfl ?_
  refine go_if_eq 212 dX4_settle_181 (by decide) (fun hc => ?_) (fun hc => ?_)
  · have h := go_ifp hc h
    refine go_iinc (v := (v7 + 1)) dX4_settle_212 7 rfl rfl (by decide) rfl ?_
    show Go w 4 0 0 mtX4_settle 215 [(7, .int (v7 + 1)), (0, .ref 387), (1, .int a0), (2, .int v2), (3, .ref 388), (4, .ref 388), (5, .int v5), (6, .int v6), (8, .int v8), (9, .int v9)] [] (go_mk tx μ) (go_Z w Q)
    refine go_goto 110 dX4_settle_215 (by decide) ?_
    cases h
    have hK : Go w 4 0 0 mtX4_settle 110 [(0, .ref 387), (1, .int a0), (2, .int v2), (3, .ref 388), (4, .ref 388), (5, .int v5), (6, .int v6), (7, .int (v7 + 1))] [] (go_mk tx μ) (go_Z w Q) := hK
    exact go_pick [1, 2, 3, 4, 5, 6, 7, 0] rfl hK
  · have h := go_ifn hc h
    refine go_aload_n dX4_settle_184 3 rfl ?_
    refine go_iload dX4_settle_185 6 rfl ?_
    refine go_iload dX4_settle_187 8 rfl ?_
    obtain ⟨hz44, h⟩ := go_chk_e h
    obtain ⟨μ43, hμ43, h⟩ := go_let_e h
    refine pp_ist dX4_settle_189 sh_388 hz44 hμ43 ?_
    refine go_aload dX4_settle_190 4 rfl ?_
    refine go_iload dX4_settle_192 8 rfl ?_
    refine go_iload dX4_settle_194 6 rfl ?_
    obtain ⟨hz46, h⟩ := go_chk_e h
    obtain ⟨μ45, hμ45, h⟩ := go_let_e h
    refine pp_ist dX4_settle_196 sh_388 hz46 hμ45 ?_
    refine go_iload dX4_settle_197 9 rfl ?_
    refine go_iconst (v := (-1)) dX4_settle_199 (by decide) ?_
    refine go_icmp_eq 208 dX4_settle_200 (by decide) (fun hc => ?_) (fun hc => ?_)
    · have h := go_ifp hc h
      refine go_pick [0, 1, 2, 3, 4, 5, 7, 9] rfl ?_
      exact jqX4_settle_208_110_c w tx Q μ45 a0 v2 v5 v7 v9    _ h hK
    · have h := go_ifn hc h
      refine go_aload_n dX4_settle_203 3 rfl ?_
      refine go_iload dX4_settle_204 9 rfl ?_
      refine go_iconst (v := (-1)) dX4_settle_206 (by decide) ?_
      obtain ⟨hz48, h⟩ := go_chk_e h
      obtain ⟨μ47, hμ47, h⟩ := go_let_e h
      refine pp_ist dX4_settle_207 sh_388 hz48 hμ47 ?_
      refine go_pick [0, 1, 2, 3, 4, 5, 7, 9] rfl ?_
      exact jqX4_settle_208_110_c w tx Q μ47 a0 v2 v5 v7 v9    _ h hK
set_option maxRecDepth 20000 in
set_option maxHeartbeats 4000000 in
theorem lqX4_settle_110_c (w : go_Wd) (tx : Nat) (Q : Option Value → go_M → Prop) (a0 : Int32) (v2 : Int32) (v5 : Int32)  (v6 : Int32) (v7 : Int32) (μ : PM) (out : (Int32 × Int32 × PM) ⊕ ((PM) ⊕ ((Int32 × PM) ⊕ (PM)))) (h : lbX4_settle_110_c a0 v2 v5 v6 v7 μ = some out) (hK : go_out (ggX4_settle_110_c w tx Q a0 v2 v5) (eeX4_settle_110_c w tx Q a0 v2 v5) out) : ggX4_settle_110_c w tx Q a0 v2 v5 (v6, v7, μ) := by
  unfold lbX4_settle_110_c at h
  show Go w 4 0 0 mtX4_settle 110 [(0, .ref 387), (1, .int a0), (2, .int v2), (3, .ref 388), (4, .ref 388), (5, .int v5), (6, .int v6), (7, .int v7)] [] (go_mk tx μ) (go_Z w Q)
  refine go_iload dX4_settle_110 7 rfl ?_
  refine go_bipush (v := 30) dX4_settle_112 (by decide) ?_
  refine go_icmp_gt 218 dX4_settle_114 (by decide) (fun hc => ?_) (fun hc => ?_)
  · have h := go_ifp hc h
    cases h
    have hK : Go w 4 0 0 mtX4_settle 218 [(0, .ref 387), (1, .int a0), (2, .int v2), (3, .ref 388), (4, .ref 388), (5, .int v5)] [] (go_mk tx μ) (go_Z w Q) := hK
    exact go_pick [0, 1, 2, 3, 4, 5] rfl hK
  · have h := go_ifn hc h
    refine go_iload dX4_settle_117 6 rfl ?_
    refine go_iconst (v := (-1)) dX4_settle_119 (by decide) ?_
    refine go_icmp_eq 218 dX4_settle_120 (by decide) (fun hc => ?_) (fun hc => ?_)
    · have h := go_ifp hc h
      cases h
      have hK : Go w 4 0 0 mtX4_settle 218 [(0, .ref 387), (1, .int a0), (2, .int v2), (3, .ref 388), (4, .ref 388), (5, .int v5)] [] (go_mk tx μ) (go_Z w Q) := hK
      exact go_pick [0, 1, 2, 3, 4, 5] rfl hK
    · have h := go_ifn hc h
      refine go_aload_n dX4_settle_123 0 rfl ?_
      refine go_iload_n dX4_settle_124 1 rfl ?_
      refine go_iload dX4_settle_125 6 rfl ?_
      obtain ⟨q36, hq36, h⟩ := go_bind h
      refine pp_callV (as := [.int a0, .int v6]) (st := []) (rv := (some (.int q36))) (μ1 := μ) (st1 := [.int q36]) dX4_settle_127 ll_X4_89 sh_387 (by decide) rfl (ctX4_bestToAsk  hq36) rfl (Nat.le_of_ble_eq_true rfl) (Nat.le_of_ble_eq_true rfl) (go_Z_up w _) rfl rfl ?_
      refine go_istore dX4_settle_130 (by decide) rfl ?_
      show Go w 4 0 0 mtX4_settle 132 [(8, .int q36), (0, .ref 387), (1, .int a0), (2, .int v2), (3, .ref 388), (4, .ref 388), (5, .int v5), (6, .int v6), (7, .int v7)] [] (go_mk tx μ) (go_Z w Q)
      refine go_iload dX4_settle_132 0 rfl ?_
      refine go_iconst (v := (-1)) dX4_settle_134 (by decide) ?_
      refine go_icmp_ne 141 dX4_settle_135 (by decide) (fun hc => ?_) (fun hc => ?_)
      · have h := go_ifn hc h
        refine go_aload_n dX4_settle_141 1 rfl ?_
        refine pp_getR dX4_settle_142 ff_X4_18 (Or.inr ⟨_, rfl⟩) sh_387 rf_387_3 ?_
        refine go_iload dX4_settle_145 7 rfl ?_
        refine go_dup2 dX4_settle_147 rfl rfl ?_
        obtain ⟨hz37, h⟩ := go_chk_e h
        refine pp_ild dX4_settle_148 sh_390 hz37 ?_
        refine go_iconst (v := 1) dX4_settle_149 (by decide) ?_
        refine go_iload dX4_settle_150 0 rfl ?_
        refine go_ishl dX4_settle_152 ?_
        refine go_ior dX4_settle_153 ?_
        obtain ⟨hz39, h⟩ := go_chk_e h
        obtain ⟨μ38, hμ38, h⟩ := go_let_e h
        refine pp_ist dX4_settle_154 sh_390 hz39 hμ38 ?_
        refine go_aload dX4_settle_155 5 rfl ?_
        refine go_iload dX4_settle_157 0 rfl ?_
        obtain ⟨hz40, h⟩ := go_chk_e h
        refine pp_ild dX4_settle_159 sh_388 hz40 ?_
        obtain ⟨x41, hx41, h⟩ := go_let_e h
        refine go_top hx41 ?_
        refine go_istore dX4_settle_160 (by decide) rfl ?_
        show Go w 4 0 0 mtX4_settle 162 [(9, .int x41), (8, .int q36), (0, .ref 387), (1, .int a0), (2, .int v2), (3, .ref 388), (4, .ref 388), (5, .int v5), (6, .int v6), (7, .int v7)] [] (go_mk tx μ38) (go_Z w Q)
        refine go_aload_n dX4_settle_162 2 rfl ?_
        refine go_iload_n dX4_settle_163 3 rfl ?_
        refine go_if_ne 171 dX4_settle_164 (by decide) (fun hc => ?_) (fun hc => ?_)
        · have h := go_ifn hc h
          refine go_iconst (v := 0) dX4_settle_171 (by decide) ?_
          refine go_pick [2, 3, 4, 5, 6, 7, 8, 9, 1, 0] rfl ?_
          exact jqX4_settle_172_110_c w tx Q μ38 a0 v2 v5 v6 v7 q36 x41  0 (Or.inl rfl) _ h hK
        · have h := go_ifp hc h
          refine go_iconst (v := 1) dX4_settle_167 (by decide) ?_
          refine go_goto 172 dX4_settle_168 (by decide) ?_
          refine go_pick [2, 3, 4, 5, 6, 7, 8, 9, 1, 0] rfl ?_
          exact jqX4_settle_172_110_c w tx Q μ38 a0 v2 v5 v6 v7 q36 x41  1 (Or.inr rfl) _ h hK
      · have h := go_ifp hc h
        refine go_goto 218 dX4_settle_138 (by decide) ?_
        cases h
        have hK : Go w 4 0 0 mtX4_settle 218 [(0, .ref 387), (1, .int a0), (2, .int v2), (3, .ref 388), (4, .ref 388), (5, .int v5)] [] (go_mk tx μ) (go_Z w Q) := hK
        exact go_pick [1, 2, 3, 4, 5, 6] rfl hK
set_option maxRecDepth 20000 in
set_option maxHeartbeats 4000000 in
theorem lqX4_settle_97_c (w : go_Wd) (tx : Nat) (Q : Option Value → go_M → Prop) (a0 : Int32) (v2 : Int32)  (v5 : Int32) (μ : PM) (out : (Int32 × PM) ⊕ (PM)) (h : lbX4_settle_97_c a0 v2 v5 μ = some out) (hK : go_out (ggX4_settle_97_c w tx Q a0 v2) (eeX4_settle_97_c w tx Q a0 v2) out) : ggX4_settle_97_c w tx Q a0 v2 (v5, μ) := by
  unfold lbX4_settle_97_c at h
  show Go w 4 0 0 mtX4_settle 97 [(0, .ref 387), (1, .int a0), (2, .int v2), (3, .ref 388), (4, .ref 388), (5, .int v5)] [] (go_mk tx μ) (go_Z w Q)
  refine go_iload dX4_settle_97 5 rfl ?_
  refine go_iload_n dX4_settle_99 2 rfl ?_
  refine go_icmp_ge 224 dX4_settle_100 (by decide) (fun hc => ?_) (fun hc => ?_)
  · have h := go_ifp hc h
    cases h
    exact go_vret dX4_settle_224 rfl hK
  · have h := go_ifn hc h
    refine go_iload dX4_settle_103 5 rfl ?_
    refine go_istore dX4_settle_105 (by decide) rfl ?_
    show Go w 4 0 0 mtX4_settle 107 [(6, .int v5), (0, .ref 387), (1, .int a0), (2, .int v2), (3, .ref 388), (4, .ref 388), (5, .int v5)] [] (go_mk tx μ) (go_Z w Q)
    refine go_iconst (v := 0) dX4_settle_107 (by decide) ?_
    refine go_istore dX4_settle_108 (by decide) rfl ?_
    show Go w 4 0 0 mtX4_settle 110 [(7, .int 0), (6, .int v5), (0, .ref 387), (1, .int a0), (2, .int v2), (3, .ref 388), (4, .ref 388), (5, .int v5)] [] (go_mk tx μ) (go_Z w Q)
    obtain ⟨ρ49, hρ49, h⟩ := go_bind h
    refine go_pick [2, 3, 4, 5, 6, 7, 1, 0] rfl ?_
    refine go_lp (G := ggX4_settle_110_c w tx Q a0 v2 v5) (E := eeX4_settle_110_c w tx Q a0 v2 v5) (fun s out h hK => lqX4_settle_110_c w tx Q a0 v2 v5  s.1 s.2.1 s.2.2 out h hK) go_fuel (v5, 0, μ) ρ49 hρ49 ?_
    rcases ρ49 with e50 | y
    · have h := go_csl h
      show Go w 4 0 0 mtX4_settle 218 [(0, .ref 387), (1, .int a0), (2, .int v2), (3, .ref 388), (4, .ref 388), (5, .int v5)] [] (go_mk tx e50) (go_Z w Q)
      refine go_iinc (v := (v5 + 1)) dX4_settle_218 5 rfl rfl (by decide) rfl ?_
      show Go w 4 0 0 mtX4_settle 221 [(5, .int (v5 + 1)), (0, .ref 387), (1, .int a0), (2, .int v2), (3, .ref 388), (4, .ref 388)] [] (go_mk tx e50) (go_Z w Q)
      refine go_goto 97 dX4_settle_221 (by decide) ?_
      cases h
      have hK : Go w 4 0 0 mtX4_settle 97 [(0, .ref 387), (1, .int a0), (2, .int v2), (3, .ref 388), (4, .ref 388), (5, .int (v5 + 1))] [] (go_mk tx e50) (go_Z w Q) := hK
      exact go_pick [1, 2, 3, 4, 5, 0] rfl hK
    · have h := go_csr h
      cases h
      exact hK
set_option maxRecDepth 20000 in
set_option maxHeartbeats 4000000 in
theorem jqX4_settle_92_c (w : go_Wd) (tx : Nat) (Q : Option Value → go_M → Prop) (μ : PM) (a0 : Int32) (v2 : Int32)    (out : PM) (h : jjX4_settle_92_c μ a0 v2  = some out) (hK : Q none (go_mk tx out)) : Go w 4 0 0 mtX4_settle 92 [(0, .ref 387), (1, .int a0), (2, .int v2), (3, .ref 388)] [.ref 388] (go_mk tx μ) (go_Z w Q) := by
  unfold jjX4_settle_92_c at h
  refine go_astore dX4_settle_92 (by decide) rfl ?_
  show Go w 4 0 0 mtX4_settle 94 [(4, .ref 388), (0, .ref 387), (1, .int a0), (2, .int v2), (3, .ref 388)] [] (go_mk tx μ) (go_Z w Q)
  refine go_iconst (v := 0) dX4_settle_94 (by decide) ?_
  refine go_istore dX4_settle_95 (by decide) rfl ?_
  show Go w 4 0 0 mtX4_settle 97 [(5, .int 0), (4, .ref 388), (0, .ref 387), (1, .int a0), (2, .int v2), (3, .ref 388)] [] (go_mk tx μ) (go_Z w Q)
  obtain ⟨ρ51, hρ51, h⟩ := go_bind h
  refine go_pick [2, 3, 4, 5, 1, 0] rfl ?_
  refine go_lp (G := ggX4_settle_97_c w tx Q a0 v2) (E := eeX4_settle_97_c w tx Q a0 v2) (fun s out h hK => lqX4_settle_97_c w tx Q a0 v2  s.1 s.2 out h hK) go_fuel (0, μ) ρ51 hρ51 ?_
  cases h
  exact hK
set_option maxRecDepth 20000 in
set_option maxHeartbeats 4000000 in
theorem jqX4_settle_208_110_d (w : go_Wd) (tx : Nat) (Q : Option Value → go_M → Prop) (μ : PM) (a0 : Int32) (v2 : Int32) (v5 : Int32) (v7 : Int32) (v9 : Int32)    (out : (Int32 × Int32 × PM) ⊕ ((PM) ⊕ ((Int32 × PM) ⊕ (PM)))) (h : jjX4_settle_208_110_d μ a0 v2 v5 v7 v9  = some out) (hK : go_out (ggX4_settle_110_d w tx Q a0 v2 v5) (eeX4_settle_110_d w tx Q a0 v2 v5) out) : Go w 4 0 0 mtX4_settle 208 [(0, .ref 387), (1, .int a0), (2, .int v2), (3, .ref 388), (4, .ref 389), (5, .int v5), (7, .int v7), (9, .int v9)] [] (go_mk tx μ) (go_Z w Q) := by
  unfold jjX4_settle_208_110_d at h
  refine go_iload dX4_settle_208 7 rfl ?_
  refine go_istore dX4_settle_210 (by decide) rfl ?_
  show Go w 4 0 0 mtX4_settle 212 [(6, .int v9), (0, .ref 387), (1, .int a0), (2, .int v2), (3, .ref 388), (4, .ref 389), (5, .int v5), (7, .int v7), (9, .int v9)] [] (go_mk tx μ) (go_Z w Q)
  refine go_iinc (v := (v7 + 1)) dX4_settle_212 7 rfl rfl (by decide) rfl ?_
  show Go w 4 0 0 mtX4_settle 215 [(7, .int (v7 + 1)), (6, .int v9), (0, .ref 387), (1, .int a0), (2, .int v2), (3, .ref 388), (4, .ref 389), (5, .int v5), (9, .int v9)] [] (go_mk tx μ) (go_Z w Q)
  refine go_goto 110 dX4_settle_215 (by decide) ?_
  cases h
  have hK : Go w 4 0 0 mtX4_settle 110 [(0, .ref 387), (1, .int a0), (2, .int v2), (3, .ref 388), (4, .ref 389), (5, .int v5), (6, .int v9), (7, .int (v7 + 1))] [] (go_mk tx μ) (go_Z w Q) := hK
  exact go_pick [2, 3, 4, 5, 6, 7, 1, 0] rfl hK
set_option maxRecDepth 20000 in
set_option maxHeartbeats 4000000 in
theorem jqX4_settle_172_110_d (w : go_Wd) (tx : Nat) (Q : Option Value → go_M → Prop) (μ : PM) (a0 : Int32) (v2 : Int32) (v5 : Int32) (v6 : Int32) (v7 : Int32) (v8 : Int32) (v9 : Int32)  (s1 : Int32) (hs1 : s1 = 0 ∨ s1 = 1) (out : (Int32 × Int32 × PM) ⊕ ((PM) ⊕ ((Int32 × PM) ⊕ (PM)))) (h : jjX4_settle_172_110_d μ a0 v2 v5 v6 v7 v8 v9 s1 = some out) (hK : go_out (ggX4_settle_110_d w tx Q a0 v2 v5) (eeX4_settle_110_d w tx Q a0 v2 v5) out) : Go w 4 0 0 mtX4_settle 172 [(0, .ref 387), (1, .int a0), (2, .int v2), (3, .ref 388), (4, .ref 389), (5, .int v5), (6, .int v6), (7, .int v7), (8, .int v8), (9, .int v9)] [.int s1, .ref 387] (go_mk tx μ) (go_Z w Q) := by
  unfold jjX4_settle_172_110_d at h
  refine go_iload dX4_settle_172 8 rfl ?_
  refine go_iload dX4_settle_174 6 rfl ?_
  refine go_iload dX4_settle_176 9 rfl ?_
  obtain ⟨q58, hq58, h⟩ := go_bind h
  refine pp_callV (as := [.int s1, .int v8, .int v6, .int v9]) (st := []) (rv := (some (.int q58))) (μ1 := μ) (st1 := [.int q58]) dX4_settle_178 ll_X4_74 sh_387 (by decide) rfl (ctX4_likesMore  hq58) rfl (Nat.le_of_ble_eq_true rfl) (Nat.le_of_ble_eq_true rfl) (go_Z_up w _) rfl rfl ?_
  refine go_if_eq 212 dX4_settle_181 (by decide) (fun hc => ?_) (fun hc => ?_)
  · have h := go_ifp hc h
    refine go_iinc (v := (v7 + 1)) dX4_settle_212 7 rfl rfl (by decide) rfl ?_
    show Go w 4 0 0 mtX4_settle 215 [(7, .int (v7 + 1)), (0, .ref 387), (1, .int a0), (2, .int v2), (3, .ref 388), (4, .ref 389), (5, .int v5), (6, .int v6), (8, .int v8), (9, .int v9)] [] (go_mk tx μ) (go_Z w Q)
    refine go_goto 110 dX4_settle_215 (by decide) ?_
    cases h
    have hK : Go w 4 0 0 mtX4_settle 110 [(0, .ref 387), (1, .int a0), (2, .int v2), (3, .ref 388), (4, .ref 389), (5, .int v5), (6, .int v6), (7, .int (v7 + 1))] [] (go_mk tx μ) (go_Z w Q) := hK
    exact go_pick [1, 2, 3, 4, 5, 6, 7, 0] rfl hK
  · have h := go_ifn hc h
    refine go_aload_n dX4_settle_184 3 rfl ?_
    refine go_iload dX4_settle_185 6 rfl ?_
    refine go_iload dX4_settle_187 8 rfl ?_
    obtain ⟨hz60, h⟩ := go_chk_e h
    obtain ⟨μ59, hμ59, h⟩ := go_let_e h
    refine pp_ist dX4_settle_189 sh_388 hz60 hμ59 ?_
    refine go_aload dX4_settle_190 4 rfl ?_
    refine go_iload dX4_settle_192 8 rfl ?_
    refine go_iload dX4_settle_194 6 rfl ?_
    obtain ⟨hz62, h⟩ := go_chk_e h
    obtain ⟨μ61, hμ61, h⟩ := go_let_e h
    refine pp_ist dX4_settle_196 sh_389 hz62 hμ61 ?_
    refine go_iload dX4_settle_197 9 rfl ?_
    refine go_iconst (v := (-1)) dX4_settle_199 (by decide) ?_
    refine go_icmp_eq 208 dX4_settle_200 (by decide) (fun hc => ?_) (fun hc => ?_)
    · have h := go_ifp hc h
      refine go_pick [0, 1, 2, 3, 4, 5, 7, 9] rfl ?_
      exact jqX4_settle_208_110_d w tx Q μ61 a0 v2 v5 v7 v9    _ h hK
    · have h := go_ifn hc h
      refine go_aload_n dX4_settle_203 3 rfl ?_
      refine go_iload dX4_settle_204 9 rfl ?_
      refine go_iconst (v := (-1)) dX4_settle_206 (by decide) ?_
      obtain ⟨hz64, h⟩ := go_chk_e h
      obtain ⟨μ63, hμ63, h⟩ := go_let_e h
      refine pp_ist dX4_settle_207 sh_388 hz64 hμ63 ?_
      refine go_pick [0, 1, 2, 3, 4, 5, 7, 9] rfl ?_
      exact jqX4_settle_208_110_d w tx Q μ63 a0 v2 v5 v7 v9    _ h hK
set_option maxRecDepth 20000 in
set_option maxHeartbeats 4000000 in
theorem lqX4_settle_110_d (w : go_Wd) (tx : Nat) (Q : Option Value → go_M → Prop) (a0 : Int32) (v2 : Int32) (v5 : Int32)  (v6 : Int32) (v7 : Int32) (μ : PM) (out : (Int32 × Int32 × PM) ⊕ ((PM) ⊕ ((Int32 × PM) ⊕ (PM)))) (h : lbX4_settle_110_d a0 v2 v5 v6 v7 μ = some out) (hK : go_out (ggX4_settle_110_d w tx Q a0 v2 v5) (eeX4_settle_110_d w tx Q a0 v2 v5) out) : ggX4_settle_110_d w tx Q a0 v2 v5 (v6, v7, μ) := by
  unfold lbX4_settle_110_d at h
  show Go w 4 0 0 mtX4_settle 110 [(0, .ref 387), (1, .int a0), (2, .int v2), (3, .ref 388), (4, .ref 389), (5, .int v5), (6, .int v6), (7, .int v7)] [] (go_mk tx μ) (go_Z w Q)
  refine go_iload dX4_settle_110 7 rfl ?_
  refine go_bipush (v := 30) dX4_settle_112 (by decide) ?_
  refine go_icmp_gt 218 dX4_settle_114 (by decide) (fun hc => ?_) (fun hc => ?_)
  · have h := go_ifp hc h
    cases h
    have hK : Go w 4 0 0 mtX4_settle 218 [(0, .ref 387), (1, .int a0), (2, .int v2), (3, .ref 388), (4, .ref 389), (5, .int v5)] [] (go_mk tx μ) (go_Z w Q) := hK
    exact go_pick [0, 1, 2, 3, 4, 5] rfl hK
  · have h := go_ifn hc h
    refine go_iload dX4_settle_117 6 rfl ?_
    refine go_iconst (v := (-1)) dX4_settle_119 (by decide) ?_
    refine go_icmp_eq 218 dX4_settle_120 (by decide) (fun hc => ?_) (fun hc => ?_)
    · have h := go_ifp hc h
      cases h
      have hK : Go w 4 0 0 mtX4_settle 218 [(0, .ref 387), (1, .int a0), (2, .int v2), (3, .ref 388), (4, .ref 389), (5, .int v5)] [] (go_mk tx μ) (go_Z w Q) := hK
      exact go_pick [0, 1, 2, 3, 4, 5] rfl hK
    · have h := go_ifn hc h
      refine go_aload_n dX4_settle_123 0 rfl ?_
      refine go_iload_n dX4_settle_124 1 rfl ?_
      refine go_iload dX4_settle_125 6 rfl ?_
      obtain ⟨q52, hq52, h⟩ := go_bind h
      refine pp_callV (as := [.int a0, .int v6]) (st := []) (rv := (some (.int q52))) (μ1 := μ) (st1 := [.int q52]) dX4_settle_127 ll_X4_89 sh_387 (by decide) rfl (ctX4_bestToAsk  hq52) rfl (Nat.le_of_ble_eq_true rfl) (Nat.le_of_ble_eq_true rfl) (go_Z_up w _) rfl rfl ?_
      refine go_istore dX4_settle_130 (by decide) rfl ?_
      show Go w 4 0 0 mtX4_settle 132 [(8, .int q52), (0, .ref 387), (1, .int a0), (2, .int v2), (3, .ref 388), (4, .ref 389), (5, .int v5), (6, .int v6), (7, .int v7)] [] (go_mk tx μ) (go_Z w Q)
      refine go_iload dX4_settle_132 0 rfl ?_
      refine go_iconst (v := (-1)) dX4_settle_134 (by decide) ?_
      refine go_icmp_ne 141 dX4_settle_135 (by decide) (fun hc => ?_) (fun hc => ?_)
      · have h := go_ifn hc h
        refine go_aload_n dX4_settle_141 1 rfl ?_
        refine pp_getR dX4_settle_142 ff_X4_18 (Or.inr ⟨_, rfl⟩) sh_387 rf_387_3 ?_
        refine go_iload dX4_settle_145 7 rfl ?_
        refine go_dup2 dX4_settle_147 rfl rfl ?_
        obtain ⟨hz53, h⟩ := go_chk_e h
        refine pp_ild dX4_settle_148 sh_390 hz53 ?_
        refine go_iconst (v := 1) dX4_settle_149 (by decide) ?_
        refine go_iload dX4_settle_150 0 rfl ?_
        refine go_ishl dX4_settle_152 ?_
        refine go_ior dX4_settle_153 ?_
        obtain ⟨hz55, h⟩ := go_chk_e h
        obtain ⟨μ54, hμ54, h⟩ := go_let_e h
        refine pp_ist dX4_settle_154 sh_390 hz55 hμ54 ?_
        refine go_aload dX4_settle_155 5 rfl ?_
        refine go_iload dX4_settle_157 0 rfl ?_
        obtain ⟨hz56, h⟩ := go_chk_e h
        refine pp_ild dX4_settle_159 sh_389 hz56 ?_
        obtain ⟨x57, hx57, h⟩ := go_let_e h
        refine go_top hx57 ?_
        refine go_istore dX4_settle_160 (by decide) rfl ?_
        show Go w 4 0 0 mtX4_settle 162 [(9, .int x57), (8, .int q52), (0, .ref 387), (1, .int a0), (2, .int v2), (3, .ref 388), (4, .ref 389), (5, .int v5), (6, .int v6), (7, .int v7)] [] (go_mk tx μ54) (go_Z w Q)
        refine go_aload_n dX4_settle_162 2 rfl ?_
        refine go_iload_n dX4_settle_163 3 rfl ?_
        refine go_if_ne 171 dX4_settle_164 (by decide) (fun hc => ?_) (fun hc => ?_)
        · have h := go_ifn hc h
          refine go_iconst (v := 0) dX4_settle_171 (by decide) ?_
          refine go_pick [2, 3, 4, 5, 6, 7, 8, 9, 1, 0] rfl ?_
          exact jqX4_settle_172_110_d w tx Q μ54 a0 v2 v5 v6 v7 q52 x57  0 (Or.inl rfl) _ h hK
        · have h := go_ifp hc h
          refine go_iconst (v := 1) dX4_settle_167 (by decide) ?_
          refine go_goto 172 dX4_settle_168 (by decide) ?_
          refine go_pick [2, 3, 4, 5, 6, 7, 8, 9, 1, 0] rfl ?_
          exact jqX4_settle_172_110_d w tx Q μ54 a0 v2 v5 v6 v7 q52 x57  1 (Or.inr rfl) _ h hK
      · have h := go_ifp hc h
        refine go_goto 218 dX4_settle_138 (by decide) ?_
        cases h
        have hK : Go w 4 0 0 mtX4_settle 218 [(0, .ref 387), (1, .int a0), (2, .int v2), (3, .ref 388), (4, .ref 389), (5, .int v5)] [] (go_mk tx μ) (go_Z w Q) := hK
        exact go_pick [1, 2, 3, 4, 5, 6] rfl hK
set_option maxRecDepth 20000 in
set_option maxHeartbeats 4000000 in
theorem lqX4_settle_97_d (w : go_Wd) (tx : Nat) (Q : Option Value → go_M → Prop) (a0 : Int32) (v2 : Int32)  (v5 : Int32) (μ : PM) (out : (Int32 × PM) ⊕ (PM)) (h : lbX4_settle_97_d a0 v2 v5 μ = some out) (hK : go_out (ggX4_settle_97_d w tx Q a0 v2) (eeX4_settle_97_d w tx Q a0 v2) out) : ggX4_settle_97_d w tx Q a0 v2 (v5, μ) := by
  unfold lbX4_settle_97_d at h
  show Go w 4 0 0 mtX4_settle 97 [(0, .ref 387), (1, .int a0), (2, .int v2), (3, .ref 388), (4, .ref 389), (5, .int v5)] [] (go_mk tx μ) (go_Z w Q)
  refine go_iload dX4_settle_97 5 rfl ?_
  refine go_iload_n dX4_settle_99 2 rfl ?_
  refine go_icmp_ge 224 dX4_settle_100 (by decide) (fun hc => ?_) (fun hc => ?_)
  · have h := go_ifp hc h
    cases h
    exact go_vret dX4_settle_224 rfl hK
  · have h := go_ifn hc h
    refine go_iload dX4_settle_103 5 rfl ?_
    refine go_istore dX4_settle_105 (by decide) rfl ?_
    show Go w 4 0 0 mtX4_settle 107 [(6, .int v5), (0, .ref 387), (1, .int a0), (2, .int v2), (3, .ref 388), (4, .ref 389), (5, .int v5)] [] (go_mk tx μ) (go_Z w Q)
    refine go_iconst (v := 0) dX4_settle_107 (by decide) ?_
    refine go_istore dX4_settle_108 (by decide) rfl ?_
    show Go w 4 0 0 mtX4_settle 110 [(7, .int 0), (6, .int v5), (0, .ref 387), (1, .int a0), (2, .int v2), (3, .ref 388), (4, .ref 389), (5, .int v5)] [] (go_mk tx μ) (go_Z w Q)
    obtain ⟨ρ65, hρ65, h⟩ := go_bind h
    refine go_pick [2, 3, 4, 5, 6, 7, 1, 0] rfl ?_
    refine go_lp (G := ggX4_settle_110_d w tx Q a0 v2 v5) (E := eeX4_settle_110_d w tx Q a0 v2 v5) (fun s out h hK => lqX4_settle_110_d w tx Q a0 v2 v5  s.1 s.2.1 s.2.2 out h hK) go_fuel (v5, 0, μ) ρ65 hρ65 ?_
    rcases ρ65 with e66 | y
    · have h := go_csl h
      show Go w 4 0 0 mtX4_settle 218 [(0, .ref 387), (1, .int a0), (2, .int v2), (3, .ref 388), (4, .ref 389), (5, .int v5)] [] (go_mk tx e66) (go_Z w Q)
      refine go_iinc (v := (v5 + 1)) dX4_settle_218 5 rfl rfl (by decide) rfl ?_
      show Go w 4 0 0 mtX4_settle 221 [(5, .int (v5 + 1)), (0, .ref 387), (1, .int a0), (2, .int v2), (3, .ref 388), (4, .ref 389)] [] (go_mk tx e66) (go_Z w Q)
      refine go_goto 97 dX4_settle_221 (by decide) ?_
      cases h
      have hK : Go w 4 0 0 mtX4_settle 97 [(0, .ref 387), (1, .int a0), (2, .int v2), (3, .ref 388), (4, .ref 389), (5, .int (v5 + 1))] [] (go_mk tx e66) (go_Z w Q) := hK
      exact go_pick [1, 2, 3, 4, 5, 0] rfl hK
    · have h := go_csr h
      cases h
      exact hK
set_option maxRecDepth 20000 in
set_option maxHeartbeats 4000000 in
theorem jqX4_settle_92_d (w : go_Wd) (tx : Nat) (Q : Option Value → go_M → Prop) (μ : PM) (a0 : Int32) (v2 : Int32)    (out : PM) (h : jjX4_settle_92_d μ a0 v2  = some out) (hK : Q none (go_mk tx out)) : Go w 4 0 0 mtX4_settle 92 [(0, .ref 387), (1, .int a0), (2, .int v2), (3, .ref 388)] [.ref 389] (go_mk tx μ) (go_Z w Q) := by
  unfold jjX4_settle_92_d at h
  refine go_astore dX4_settle_92 (by decide) rfl ?_
  show Go w 4 0 0 mtX4_settle 94 [(4, .ref 389), (0, .ref 387), (1, .int a0), (2, .int v2), (3, .ref 388)] [] (go_mk tx μ) (go_Z w Q)
  refine go_iconst (v := 0) dX4_settle_94 (by decide) ?_
  refine go_istore dX4_settle_95 (by decide) rfl ?_
  show Go w 4 0 0 mtX4_settle 97 [(5, .int 0), (4, .ref 389), (0, .ref 387), (1, .int a0), (2, .int v2), (3, .ref 388)] [] (go_mk tx μ) (go_Z w Q)
  obtain ⟨ρ67, hρ67, h⟩ := go_bind h
  refine go_pick [2, 3, 4, 5, 1, 0] rfl ?_
  refine go_lp (G := ggX4_settle_97_d w tx Q a0 v2) (E := eeX4_settle_97_d w tx Q a0 v2) (fun s out h hK => lqX4_settle_97_d w tx Q a0 v2  s.1 s.2 out h hK) go_fuel (0, μ) ρ67 hρ67 ?_
  cases h
  exact hK
set_option maxRecDepth 20000 in
set_option maxHeartbeats 4000000 in
theorem jqX4_settle_76_b (w : go_Wd) (tx : Nat) (Q : Option Value → go_M → Prop) (μ : PM) (a0 : Int32) (v2 : Int32)    (out : PM) (h : jjX4_settle_76_b μ a0 v2  = some out) (hK : Q none (go_mk tx out)) : Go w 4 0 0 mtX4_settle 76 [(0, .ref 387), (1, .int a0), (2, .int v2)] [.ref 388] (go_mk tx μ) (go_Z w Q) := by
  unfold jjX4_settle_76_b at h
  refine go_astore_n dX4_settle_76 (by decide) rfl ?_
  show Go w 4 0 0 mtX4_settle 77 [(3, .ref 388), (0, .ref 387), (1, .int a0), (2, .int v2)] [] (go_mk tx μ) (go_Z w Q)
  refine go_iload_n dX4_settle_77 2 rfl ?_
  refine go_if_eq 88 dX4_settle_78 (by decide) (fun hc => ?_) (fun hc => ?_)
  · have h := go_ifp hc h
    refine go_aload_n dX4_settle_88 1 rfl ?_
    refine pp_getR dX4_settle_89 ff_X4_9 (Or.inr ⟨_, rfl⟩) sh_387 rf_387_1 ?_
    refine go_pick [1, 2, 3, 0] rfl ?_
    exact jqX4_settle_92_c w tx Q μ a0 v2    _ h hK
  · have h := go_ifn hc h
    refine go_aload_n dX4_settle_81 1 rfl ?_
    refine pp_getR dX4_settle_82 ff_X4_15 (Or.inr ⟨_, rfl⟩) sh_387 rf_387_2 ?_
    refine go_goto 92 dX4_settle_85 (by decide) ?_
    refine go_pick [1, 2, 3, 0] rfl ?_
    exact jqX4_settle_92_d w tx Q μ a0 v2    _ h hK
set_option maxRecDepth 20000 in
set_option maxHeartbeats 4000000 in
theorem jqX4_settle_60 (w : go_Wd) (tx : Nat) (Q : Option Value → go_M → Prop) (μ : PM) (a0 : Int32)   (s0 : Int32)  (out : PM) (h : jjX4_settle_60 μ a0  s0 = some out) (hK : Q none (go_mk tx out)) : Go w 4 0 0 mtX4_settle 60 [(0, .ref 387), (1, .int a0)] [.int s0] (go_mk tx μ) (go_Z w Q) := by
  unfold jjX4_settle_60 at h
  refine go_istore_n dX4_settle_60 (by decide) rfl ?_
  show Go w 4 0 0 mtX4_settle 61 [(2, .int s0), (0, .ref 387), (1, .int a0)] [] (go_mk tx μ) (go_Z w Q)
  refine go_iload_n dX4_settle_61 2 rfl ?_
  refine go_if_eq 72 dX4_settle_62 (by decide) (fun hc => ?_) (fun hc => ?_)
  · have h := go_ifp hc h
    refine go_aload_n dX4_settle_72 1 rfl ?_
    refine pp_getR dX4_settle_73 ff_X4_15 (Or.inr ⟨_, rfl⟩) sh_387 rf_387_2 ?_
    refine go_pick [1, 2, 0] rfl ?_
    exact jqX4_settle_76 w tx Q μ a0 s0    _ h hK
  · have h := go_ifn hc h
    refine go_aload_n dX4_settle_65 1 rfl ?_
    refine pp_getR dX4_settle_66 ff_X4_9 (Or.inr ⟨_, rfl⟩) sh_387 rf_387_1 ?_
    refine go_goto 76 dX4_settle_69 (by decide) ?_
    refine go_pick [1, 2, 0] rfl ?_
    exact jqX4_settle_76_b w tx Q μ a0 s0    _ h hK
set_option maxRecDepth 20000 in
set_option maxHeartbeats 4000000 in
theorem cmX4_settle (w : go_Wd) (tx : Nat) (Q : Option Value → go_M → Prop) (μ : PM) (a0 : Int32) (out : PM) (h : fX4_settle μ a0 = some out) (hK : Q none (go_mk tx out)) : Go w 4 0 0 mtX4_settle 0 [(0, .ref 387), (1, .int a0)] [] (go_mk tx μ) (go_Z w Q) := by
  unfold fX4_settle at h
  refine go_aload_n dX4_settle_0 0 rfl ?_
  refine pp_getR dX4_settle_1 ff_X4_9 (Or.inr ⟨_, rfl⟩) sh_387 rf_387_1 ?_
  refine go_iconst (v := (-1)) dX4_settle_4 (by decide) ?_
  obtain ⟨q1, hq1, h⟩ := go_bind h
  refine pp_callS (as := [.ref 388, .int (-1)]) (st := []) (rv := none) (μ1 := q1) (st1 := []) dX4_settle_5 ll_X4_78 (ctJ7_fill_53178 sh_388 hq1) rfl (Nat.le_of_ble_eq_true rfl) (Nat.le_of_ble_eq_true rfl) (go_Z_up w _) rfl rfl ?_
  refine go_aload_n dX4_settle_8 0 rfl ?_
  refine pp_getR dX4_settle_9 ff_X4_15 (Or.inr ⟨_, rfl⟩) sh_387 rf_387_2 ?_
  refine go_iconst (v := (-1)) dX4_settle_12 (by decide) ?_
  obtain ⟨q2, hq2, h⟩ := go_bind h
  refine pp_callS (as := [.ref 389, .int (-1)]) (st := []) (rv := none) (μ1 := q2) (st1 := []) dX4_settle_13 ll_X4_78 (ctJ7_fill_53178 sh_389 hq2) rfl (Nat.le_of_ble_eq_true rfl) (Nat.le_of_ble_eq_true rfl) (go_Z_up w _) rfl rfl ?_
  refine go_aload_n dX4_settle_16 0 rfl ?_
  refine pp_getR dX4_settle_17 ff_X4_18 (Or.inr ⟨_, rfl⟩) sh_387 rf_387_3 ?_
  refine go_iconst (v := 0) dX4_settle_20 (by decide) ?_
  obtain ⟨q3, hq3, h⟩ := go_bind h
  refine pp_callS (as := [.ref 390, .int 0]) (st := []) (rv := none) (μ1 := q3) (st1 := []) dX4_settle_21 ll_X4_78 (ctJ7_fill_53178 sh_390 hq3) rfl (Nat.le_of_ble_eq_true rfl) (Nat.le_of_ble_eq_true rfl) (go_Z_up w _) rfl rfl ?_
  refine go_iload_n dX4_settle_24 1 rfl ?_
  refine go_if_eq 45 dX4_settle_25 (by decide) (fun hc => ?_) (fun hc => ?_)
  · have h := go_ifp hc h
    refine go_aload_n dX4_settle_45 0 rfl ?_
    refine pp_getR dX4_settle_46 ff_X4_30 (Or.inl ⟨_, rfl⟩) sh_387 rf_387_0 ?_
    refine pp_getR dX4_settle_49 ff_X4_53 (Or.inl ⟨_, rfl⟩) go_isV_1.1 rf_1_10 ?_
    refine pp_getI dX4_settle_52 ff_X4_63 (by decide) go_isW_12.1 ?_
    refine go_bipush (v := 6) dX4_settle_55 (by decide) ?_
    refine go_mmin dX4_settle_57 mm_X4_84 (by decide) (Nat.le_of_ble_eq_true rfl) ?_
    refine go_top (x := (jmin (q3.1 12 5) 6)) rfl ?_
    refine go_pick [0, 1] rfl ?_
    exact jqX4_settle_60 w tx Q q3 a0   ((jmin (q3.1 12 5) 6))  _ h hK
  · have h := go_ifn hc h
    refine go_aload_n dX4_settle_28 0 rfl ?_
    refine pp_getR dX4_settle_29 ff_X4_30 (Or.inl ⟨_, rfl⟩) sh_387 rf_387_0 ?_
    refine pp_getR dX4_settle_32 ff_X4_53 (Or.inl ⟨_, rfl⟩) go_isV_1.1 rf_1_10 ?_
    refine pp_getI dX4_settle_35 ff_X4_57 (by decide) go_isW_12.1 ?_
    refine go_iconst (v := 5) dX4_settle_38 (by decide) ?_
    refine go_mmin dX4_settle_39 mm_X4_84 (by decide) (Nat.le_of_ble_eq_true rfl) ?_
    refine go_top (x := (jmin (q3.1 12 6) 5)) rfl ?_
    refine go_goto 60 dX4_settle_42 (by decide) ?_
    refine go_pick [0, 1] rfl ?_
    exact jqX4_settle_60 w tx Q q3 a0   ((jmin (q3.1 12 6) 5))  _ h hK
theorem ctX4_settle {w : go_Wd} {tx : Nat} {μ : PM} {a0 : Int32} {μ1 : PM}  (h : fX4_settle μ a0 = some μ1) : Ct w 4 0 0 mtX4_settle [.ref 387, .int a0] (go_mk tx μ) (fun r' M' => r' = none ∧ M' = go_mk tx μ1) :=
  go_entry rfl (by decide) (Nat.le_of_ble_eq_true rfl) (cmX4_settle w tx _ μ a0 _ h ⟨rfl, rfl⟩)
def fX4_hasOf (μ : PM) (a0 : Int32) : Option (Int32) :=
  (if a0 < 0 then some ((-1)) else (if 5 ≤ a0 then some ((-1)) else go_chk a0 5 <| some ((μ.1 388 a0.toNatClampNeg))))
set_option maxRecDepth 20000 in
set_option maxHeartbeats 4000000 in
theorem cmX4_hasOf (w : go_Wd) (tx : Nat) (Q : Option Value → go_M → Prop) (μ : PM) (a0 : Int32) (out : Int32) (h : fX4_hasOf μ a0 = some out) (hK : Q (some (.int out)) (go_mk tx μ)) : Go w 0 0 0 mtX4_hasOf 0 [(0, .ref 387), (1, .int a0)] [] (go_mk tx μ) (go_Z w Q) := by
  unfold fX4_hasOf at h
  refine go_iload_n dX4_hasOf_0 1 rfl ?_
  refine go_if_lt 18 dX4_hasOf_1 (by decide) (fun hc => ?_) (fun hc => ?_)
  · have h := go_ifp hc h
    refine go_iconst (v := (-1)) dX4_hasOf_18 (by decide) ?_
    cases h
    exact go_iret dX4_hasOf_19 rfl hK
  · have h := go_ifn hc h
    refine go_iload_n dX4_hasOf_4 1 rfl ?_
    refine go_iconst (v := 5) dX4_hasOf_5 (by decide) ?_
    refine go_icmp_ge 18 dX4_hasOf_6 (by decide) (fun hc => ?_) (fun hc => ?_)
    · have h := go_ifp hc h
      refine go_iconst (v := (-1)) dX4_hasOf_18 (by decide) ?_
      cases h
      exact go_iret dX4_hasOf_19 rfl hK
    · have h := go_ifn hc h
      refine go_aload_n dX4_hasOf_9 0 rfl ?_
      refine pp_getR dX4_hasOf_10 ff_X4_9 (Or.inr ⟨_, rfl⟩) sh_387 rf_387_1 ?_
      refine go_iload_n dX4_hasOf_13 1 rfl ?_
      obtain ⟨hz1, h⟩ := go_chk_e h
      refine pp_ild dX4_hasOf_14 sh_388 hz1 ?_
      refine go_goto 19 dX4_hasOf_15 (by decide) ?_
      cases h
      exact go_iret dX4_hasOf_19 rfl hK
theorem ctX4_hasOf {w : go_Wd} {tx : Nat} {μ : PM} {a0 : Int32} {r : Int32}  (h : fX4_hasOf μ a0 = some r) : Ct w 0 0 0 mtX4_hasOf [.ref 387, .int a0] (go_mk tx μ) (fun r' M' => r' = some (.int r) ∧ M' = go_mk tx μ) :=
  go_entry rfl (by decide) (Nat.le_of_ble_eq_true rfl) (cmX4_hasOf w tx _ μ a0 _ h ⟨rfl, rfl⟩)
def jjX4_countFrom_B_19 (μ : PM) (rec : PM → Int32 → Int32 → Option (Int32 × PM)) (a0 : Int32) (a1 : Int32)   : Option (Int32 × PM) :=
  (fX4_countRather μ 393).bind fun q1 => (if q1 = 0 then some ((1, μ)) else some ((0, μ)))
def jjX4_countFrom_B_56 (μ : PM) (rec : PM → Int32 → Int32 → Option (Int32 × PM)) (a0 : Int32) (a1 : Int32)   : Option (Int32 × PM) :=
  (rec μ (a0 + 1) a1).bind fun q3 => some ((q3.1, q3.2))
def jjX4_countFrom_B_131_70 (μ : PM) (rec : PM → Int32 → Int32 → Option (Int32 × PM)) (a0 : Int32) (a1 : Int32) (v3 : Int32) (v4 : Int32) (s0 : Int32) : Option ((Int32 × Int32 × PM) ⊕ (Int32 × PM)) :=
  (if s0 = 0 then some (.inl (v3, (v4 + 1), μ)) else (if (fX11_hasBit a1 v4) = 0 then go_chk a0 5 <| go_let (pm_wi μ 393 a0.toNatClampNeg v4) fun μ7 => (rec μ7 (a0 + 1) (a1 ||| ((1 : Int32) <<< (v4 &&& 31)))).bind fun q9 => some (.inl ((v3 + q9.1), (v4 + 1), q9.2)) else some (.inl (v3, (v4 + 1), μ))))
def jjX4_countFrom_B_130_70 (μ : PM) (rec : PM → Int32 → Int32 → Option (Int32 × PM)) (a0 : Int32) (a1 : Int32) (v3 : Int32) (v4 : Int32)  : Option ((Int32 × Int32 × PM) ⊕ (Int32 × PM)) :=
  jjX4_countFrom_B_131_70 μ rec a0 a1 v3 v4 0
def lbX4_countFrom_B_70 (rec : PM → Int32 → Int32 → Option (Int32 × PM)) (a0 : Int32) (a1 : Int32)  (v3 : Int32) (v4 : Int32) (μ : PM) : Option ((Int32 × Int32 × PM) ⊕ (Int32 × PM)) :=
  (if (μ.1 12 5) ≤ v4 then some (.inr ((v3, μ))) else (if 6 ≤ v4 then some (.inr ((v3, μ))) else go_chk a0 5 <| (fX4_likesMore μ 1 a0 v4 (μ.1 391 a0.toNatClampNeg)).bind fun q6 => (if q6 = 0 then go_chk a0 5 <| (fX4_likesMore μ 1 a0 (μ.1 392 a0.toNatClampNeg) v4).bind fun q11 => (if q11 = 0 then jjX4_countFrom_B_131_70 μ rec a0 a1 v3 v4 1 else jjX4_countFrom_B_130_70 μ rec a0 a1 v3 v4) else jjX4_countFrom_B_130_70 μ rec a0 a1 v3 v4)))
def fX4_countFrom_B (μ : PM) (rec : PM → Int32 → Int32 → Option (Int32 × PM)) (a0 : Int32) (a1 : Int32) : Option (Int32 × PM) :=
  (if (μ.1 12 6) ≤ a0 then jjX4_countFrom_B_19 μ rec a0 a1 else (if a0 < 5 then go_chk a0 5 <| (if (μ.1 391 a0.toNatClampNeg) = (-1) then jjX4_countFrom_B_56 μ rec a0 a1 else go_chk a0 5 <| (if (μ.1 392 a0.toNatClampNeg) = (-1) then jjX4_countFrom_B_56 μ rec a0 a1 else ((lp (fun s => lbX4_countFrom_B_70 rec a0 a1 s.1 s.2.1 s.2.2) go_fuel (0, 0, μ)).bind fun ρ12 => some ρ12))) else jjX4_countFrom_B_19 μ rec a0 a1))
def ggX4_countFrom_B_70 (w : go_Wd) (tx : Nat) (Q : Option Value → go_M → Prop) (dd : Nat) (rec : PM → Int32 → Int32 → Option (Int32 × PM)) (a0 : Int32) (a1 : Int32)  (s : Int32 × Int32 × PM) : Prop := Go w (dd + 9) 0 0 mtX4_countFrom 70 [(0, .ref 387), (1, .int a0), (2, .int a1), (3, .int s.1), (4, .int s.2.1)] [] (go_mk tx s.2.2) (go_Z w Q)
def eeX4_countFrom_B_70 (w : go_Wd) (tx : Nat) (Q : Option Value → go_M → Prop) (dd : Nat) (rec : PM → Int32 → Int32 → Option (Int32 × PM)) (a0 : Int32) (a1 : Int32)  (y : Int32 × PM) : Prop := Q (some (.int y.1)) (go_mk tx y.2)
set_option maxRecDepth 20000 in
set_option maxHeartbeats 4000000 in
theorem jqX4_countFrom_B_19 (w : go_Wd) (tx : Nat) (Q : Option Value → go_M → Prop) (dd : Nat) (μ : PM) (rec : PM → Int32 → Int32 → Option (Int32 × PM)) (a0 : Int32) (a1 : Int32) (hrec : ∀ (μ : PM) (x y : Int32) (out : Int32 × PM), rec μ x y = some out → Ct w dd 0 0 mtX4_countFrom [.ref 387, .int x, .int y] (go_mk tx μ) (fun r' M' => r' = some (.int out.1) ∧ M' = go_mk tx out.2))     (out : Int32 × PM) (h : jjX4_countFrom_B_19 μ rec a0 a1   = some out) (hK : Q (some (.int out.1)) (go_mk tx out.2)) : Go w (dd + 9) 0 0 mtX4_countFrom 19 [(0, .ref 387)] [] (go_mk tx μ) (go_Z w Q) := by
  unfold jjX4_countFrom_B_19 at h
  refine go_aload_n dX4_countFrom_19 0 rfl ?_
  refine go_aload_n dX4_countFrom_20 0 rfl ?_
  refine pp_getR dX4_countFrom_21 ff_X4_27 (Or.inr ⟨_, rfl⟩) sh_387 rf_387_6 ?_
  obtain ⟨q1, hq1, h⟩ := go_bind h
  refine pp_callV (as := [.ref 393]) (st := []) (rv := (some (.int q1))) (μ1 := μ) (st1 := [.int q1]) dX4_countFrom_24 ll_X4_109 sh_387 (by decide) rfl (ctX4_countRather sh_393 hq1) rfl (by omega) (Nat.le_of_ble_eq_true rfl) (go_Z_up w _) rfl rfl ?_
  refine go_if_ne 34 dX4_countFrom_27 (by decide) (fun hc => ?_) (fun hc => ?_)
  · have h := go_ifn hc h
    refine go_iconst (v := 0) dX4_countFrom_34 (by decide) ?_
    cases h
    exact go_iret dX4_countFrom_35 rfl hK
  · have h := go_ifp hc h
    refine go_iconst (v := 1) dX4_countFrom_30 (by decide) ?_
    refine go_goto 35 dX4_countFrom_31 (by decide) ?_
    cases h
    exact go_iret dX4_countFrom_35 rfl hK
set_option maxRecDepth 20000 in
set_option maxHeartbeats 4000000 in
theorem jqX4_countFrom_B_56 (w : go_Wd) (tx : Nat) (Q : Option Value → go_M → Prop) (dd : Nat) (μ : PM) (rec : PM → Int32 → Int32 → Option (Int32 × PM)) (a0 : Int32) (a1 : Int32) (hrec : ∀ (μ : PM) (x y : Int32) (out : Int32 × PM), rec μ x y = some out → Ct w dd 0 0 mtX4_countFrom [.ref 387, .int x, .int y] (go_mk tx μ) (fun r' M' => r' = some (.int out.1) ∧ M' = go_mk tx out.2))     (out : Int32 × PM) (h : jjX4_countFrom_B_56 μ rec a0 a1   = some out) (hK : Q (some (.int out.1)) (go_mk tx out.2)) : Go w (dd + 9) 0 0 mtX4_countFrom 56 [(0, .ref 387), (1, .int a0), (2, .int a1)] [] (go_mk tx μ) (go_Z w Q) := by
  unfold jjX4_countFrom_B_56 at h
  refine go_aload_n dX4_countFrom_56 0 rfl ?_
  refine go_iload_n dX4_countFrom_57 1 rfl ?_
  refine go_iconst (v := 1) dX4_countFrom_58 (by decide) ?_
  refine go_iadd dX4_countFrom_59 ?_
  refine go_iload_n dX4_countFrom_60 2 rfl ?_
  obtain ⟨q3, hq3, h⟩ := go_bind h
  refine pp_callV (as := [.int (a0 + 1), .int a1]) (st := []) (rv := (some (.int q3.1))) (μ1 := q3.2) (st1 := [.int q3.1]) dX4_countFrom_61 ll_X4_106 sh_387 (by decide) rfl (hrec μ (a0 + 1) a1 _ hq3) rfl (by omega) (Nat.le_of_ble_eq_true rfl) (go_Z_up w _) rfl rfl ?_
  cases h
  exact go_iret dX4_countFrom_64 rfl hK
set_option maxRecDepth 20000 in
set_option maxHeartbeats 4000000 in
theorem jqX4_countFrom_B_131_70 (w : go_Wd) (tx : Nat) (Q : Option Value → go_M → Prop) (dd : Nat) (μ : PM) (rec : PM → Int32 → Int32 → Option (Int32 × PM)) (a0 : Int32) (a1 : Int32) (hrec : ∀ (μ : PM) (x y : Int32) (out : Int32 × PM), rec μ x y = some out → Ct w dd 0 0 mtX4_countFrom [.ref 387, .int x, .int y] (go_mk tx μ) (fun r' M' => r' = some (.int out.1) ∧ M' = go_mk tx out.2)) (v3 : Int32) (v4 : Int32)  (s0 : Int32) (hs0 : s0 = 0 ∨ s0 = 1) (out : (Int32 × Int32 × PM) ⊕ (Int32 × PM)) (h : jjX4_countFrom_B_131_70 μ rec a0 a1 v3 v4 s0 = some out) (hK : go_out (ggX4_countFrom_B_70 w tx Q dd rec a0 a1 ) (eeX4_countFrom_B_70 w tx Q dd rec a0 a1 ) out) : Go w (dd + 9) 0 0 mtX4_countFrom 131 [(0, .ref 387), (1, .int a0), (2, .int a1), (3, .int v3), (4, .int v4)] [.int s0] (go_mk tx μ) (go_Z w Q) := by
  unfold jjX4_countFrom_B_131_70 at h
  refine go_istore dX4_countFrom_131 (by decide) rfl ?_
  show Go w (dd + 9) 0 0 mtX4_countFrom 133 [(5, .int s0), (0, .ref 387), (1, .int a0), (2, .int a1), (3, .int v3), (4, .int v4)] [] (go_mk tx μ) (go_Z w Q)
  refine go_iload dX4_countFrom_133 0 rfl ?_
  refine go_if_eq 171 dX4_countFrom_135 (by decide) (fun hc => ?_) (fun hc => ?_)
  · have h := go_ifp hc h
    refine go_iinc (v := (v4 + 1)) dX4_countFrom_171 5 rfl rfl (by decide) rfl ?_
    show Go w (dd + 9) 0 0 mtX4_countFrom 174 [(4, .int (v4 + 1)), (5, .int s0), (0, .ref 387), (1, .int a0), (2, .int a1), (3, .int v3)] [] (go_mk tx μ) (go_Z w Q)
    refine go_goto 70 dX4_countFrom_174 (by decide) ?_
    cases h
    have hK : Go w (dd + 9) 0 0 mtX4_countFrom 70 [(0, .ref 387), (1, .int a0), (2, .int a1), (3, .int v3), (4, .int (v4 + 1))] [] (go_mk tx μ) (go_Z w Q) := hK
    exact go_pick [2, 3, 4, 5, 0] rfl hK
  · have h := go_ifn hc h
    refine go_iload_n dX4_countFrom_138 3 rfl ?_
    refine go_iload dX4_countFrom_139 5 rfl ?_
    refine pp_callSN (as := [.int a1, .int v4]) (st := []) (rv := (some (.int (fX11_hasBit a1 v4)))) (μ1 := μ) (st1 := [.int (fX11_hasBit a1 v4)]) dX4_countFrom_141 ll_X4_93 (ctX11_hasBit  rfl) rfl (by omega) (Nat.le_of_ble_eq_true rfl) (go_Z_up w _) rfl rfl ?_
    refine go_if_ne 171 dX4_countFrom_144 (by decide) (fun hc => ?_) (fun hc => ?_)
    · have h := go_ifn hc h
      refine go_iinc (v := (v4 + 1)) dX4_countFrom_171 5 rfl rfl (by decide) rfl ?_
      show Go w (dd + 9) 0 0 mtX4_countFrom 174 [(4, .int (v4 + 1)), (5, .int s0), (0, .ref 387), (1, .int a0), (2, .int a1), (3, .int v3)] [] (go_mk tx μ) (go_Z w Q)
      refine go_goto 70 dX4_countFrom_174 (by decide) ?_
      cases h
      have hK : Go w (dd + 9) 0 0 mtX4_countFrom 70 [(0, .ref 387), (1, .int a0), (2, .int a1), (3, .int v3), (4, .int (v4 + 1))] [] (go_mk tx μ) (go_Z w Q) := hK
      exact go_pick [2, 3, 4, 5, 0] rfl hK
    · have h := go_ifp hc h
      refine go_aload_n dX4_countFrom_147 1 rfl ?_
      refine pp_getR dX4_countFrom_148 ff_X4_27 (Or.inr ⟨_, rfl⟩) sh_387 rf_387_6 ?_
      refine go_iload_n dX4_countFrom_151 2 rfl ?_
      refine go_iload dX4_countFrom_152 5 rfl ?_
      obtain ⟨hz8, h⟩ := go_chk_e h
      obtain ⟨μ7, hμ7, h⟩ := go_let_e h
      refine pp_ist dX4_countFrom_154 sh_393 hz8 hμ7 ?_
      refine go_iload_n dX4_countFrom_155 4 rfl ?_
      refine go_aload_n dX4_countFrom_156 1 rfl ?_
      refine go_iload_n dX4_countFrom_157 2 rfl ?_
      refine go_iconst (v := 1) dX4_countFrom_158 (by decide) ?_
      refine go_iadd dX4_countFrom_159 ?_
      refine go_iload_n dX4_countFrom_160 3 rfl ?_
      refine go_iconst (v := 1) dX4_countFrom_161 (by decide) ?_
      refine go_iload dX4_countFrom_162 5 rfl ?_
      refine go_ishl dX4_countFrom_164 ?_
      refine go_ior dX4_countFrom_165 ?_
      obtain ⟨q9, hq9, h⟩ := go_bind h
      refine pp_callV (as := [.int (a0 + 1), .int (a1 ||| ((1 : Int32) <<< (v4 &&& 31)))]) (st := [.int v3]) (rv := (some (.int q9.1))) (μ1 := q9.2) (st1 := [.int q9.1, .int v3]) dX4_countFrom_166 ll_X4_106 sh_387 (by decide) rfl (hrec μ7 (a0 + 1) (a1 ||| ((1 : Int32) <<< (v4 &&& 31))) _ hq9) rfl (by omega) (Nat.le_of_ble_eq_true rfl) (go_Z_up w _) rfl rfl ?_
      refine go_iadd dX4_countFrom_169 ?_
      refine go_istore_n dX4_countFrom_170 (by decide) rfl ?_
      show Go w (dd + 9) 0 0 mtX4_countFrom 171 [(3, .int (v3 + q9.1)), (5, .int s0), (0, .ref 387), (1, .int a0), (2, .int a1), (4, .int v4)] [] (go_mk tx q9.2) (go_Z w Q)
      refine go_iinc (v := (v4 + 1)) dX4_countFrom_171 5 rfl rfl (by decide) rfl ?_
      show Go w (dd + 9) 0 0 mtX4_countFrom 174 [(4, .int (v4 + 1)), (3, .int (v3 + q9.1)), (5, .int s0), (0, .ref 387), (1, .int a0), (2, .int a1)] [] (go_mk tx q9.2) (go_Z w Q)
      refine go_goto 70 dX4_countFrom_174 (by decide) ?_
      cases h
      have hK : Go w (dd + 9) 0 0 mtX4_countFrom 70 [(0, .ref 387), (1, .int a0), (2, .int a1), (3, .int (v3 + q9.1)), (4, .int (v4 + 1))] [] (go_mk tx q9.2) (go_Z w Q) := hK
      exact go_pick [3, 4, 5, 1, 0] rfl hK
set_option maxRecDepth 20000 in
set_option maxHeartbeats 4000000 in
theorem jqX4_countFrom_B_130_70 (w : go_Wd) (tx : Nat) (Q : Option Value → go_M → Prop) (dd : Nat) (μ : PM) (rec : PM → Int32 → Int32 → Option (Int32 × PM)) (a0 : Int32) (a1 : Int32) (hrec : ∀ (μ : PM) (x y : Int32) (out : Int32 × PM), rec μ x y = some out → Ct w dd 0 0 mtX4_countFrom [.ref 387, .int x, .int y] (go_mk tx μ) (fun r' M' => r' = some (.int out.1) ∧ M' = go_mk tx out.2)) (v3 : Int32) (v4 : Int32)    (out : (Int32 × Int32 × PM) ⊕ (Int32 × PM)) (h : jjX4_countFrom_B_130_70 μ rec a0 a1 v3 v4  = some out) (hK : go_out (ggX4_countFrom_B_70 w tx Q dd rec a0 a1 ) (eeX4_countFrom_B_70 w tx Q dd rec a0 a1 ) out) : Go w (dd + 9) 0 0 mtX4_countFrom 130 [(0, .ref 387), (1, .int a0), (2, .int a1), (3, .int v3), (4, .int v4)] [] (go_mk tx μ) (go_Z w Q) := by
  unfold jjX4_countFrom_B_130_70 at h
  refine go_iconst (v := 0) dX4_countFrom_130 (by decide) ?_
  refine go_pick [0, 1, 2, 3, 4] rfl ?_
  exact jqX4_countFrom_B_131_70 w tx Q dd μ rec a0 a1 hrec v3 v4  0 (Or.inl rfl) _ h hK
set_option maxRecDepth 20000 in
set_option maxHeartbeats 4000000 in
theorem lqX4_countFrom_B_70 (w : go_Wd) (tx : Nat) (Q : Option Value → go_M → Prop) (dd : Nat) (rec : PM → Int32 → Int32 → Option (Int32 × PM)) (a0 : Int32) (a1 : Int32) (hrec : ∀ (μ : PM) (x y : Int32) (out : Int32 × PM), rec μ x y = some out → Ct w dd 0 0 mtX4_countFrom [.ref 387, .int x, .int y] (go_mk tx μ) (fun r' M' => r' = some (.int out.1) ∧ M' = go_mk tx out.2))   (v3 : Int32) (v4 : Int32) (μ : PM) (out : (Int32 × Int32 × PM) ⊕ (Int32 × PM)) (h : lbX4_countFrom_B_70 rec a0 a1  v3 v4 μ = some out) (hK : go_out (ggX4_countFrom_B_70 w tx Q dd rec a0 a1 ) (eeX4_countFrom_B_70 w tx Q dd rec a0 a1 ) out) : ggX4_countFrom_B_70 w tx Q dd rec a0 a1  (v3, v4, μ) := by
  unfold lbX4_countFrom_B_70 at h
  show Go w (dd + 9) 0 0 mtX4_countFrom 70 [(0, .ref 387), (1, .int a0), (2, .int a1), (3, .int v3), (4, .int v4)] [] (go_mk tx μ) (go_Z w Q)
  refine go_iload dX4_countFrom_70 4 rfl ?_
  refine go_aload_n dX4_countFrom_72 0 rfl ?_
  refine pp_getR dX4_countFrom_73 ff_X4_30 (Or.inl ⟨_, rfl⟩) sh_387 rf_387_0 ?_
  refine pp_getR dX4_countFrom_76 ff_X4_53 (Or.inl ⟨_, rfl⟩) go_isV_1.1 rf_1_10 ?_
  refine pp_getI dX4_countFrom_79 ff_X4_63 (by decide) go_isW_12.1 ?_
  refine go_icmp_ge 177 dX4_countFrom_82 (by decide) (fun hc => ?_) (fun hc => ?_)
  · have h := go_ifp hc h
    refine go_iload_n dX4_countFrom_177 3 rfl ?_
    cases h
    exact go_iret dX4_countFrom_178 rfl hK
  · have h := go_ifn hc h
    refine go_iload dX4_countFrom_85 4 rfl ?_
    refine go_bipush (v := 6) dX4_countFrom_87 (by decide) ?_
    refine go_icmp_ge 177 dX4_countFrom_89 (by decide) (fun hc => ?_) (fun hc => ?_)
    · have h := go_ifp hc h
      refine go_iload_n dX4_countFrom_177 3 rfl ?_
      cases h
      exact go_iret dX4_countFrom_178 rfl hK
    · have h := go_ifn hc h
      refine go_aload_n dX4_countFrom_92 0 rfl ?_
      refine go_iconst (v := 1) dX4_countFrom_93 (by decide) ?_
      refine go_iload_n dX4_countFrom_94 1 rfl ?_
      refine go_iload dX4_countFrom_95 4 rfl ?_
      refine go_aload_n dX4_countFrom_97 0 rfl ?_
      refine pp_getR dX4_countFrom_98 ff_X4_21 (Or.inr ⟨_, rfl⟩) sh_387 rf_387_4 ?_
      refine go_iload_n dX4_countFrom_101 1 rfl ?_
      obtain ⟨hz5, h⟩ := go_chk_e h
      refine pp_ild dX4_countFrom_102 sh_391 hz5 ?_
      obtain ⟨q6, hq6, h⟩ := go_bind h
      refine pp_callV (as := [.int 1, .int a0, .int v4, .int (μ.1 391 a0.toNatClampNeg)]) (st := []) (rv := (some (.int q6))) (μ1 := μ) (st1 := [.int q6]) dX4_countFrom_103 ll_X4_74 sh_387 (by decide) rfl (ctX4_likesMore  hq6) rfl (by omega) (Nat.le_of_ble_eq_true rfl) (go_Z_up w _) rfl rfl ?_
      refine go_if_ne 130 dX4_countFrom_106 (by decide) (fun hc => ?_) (fun hc => ?_)
      · have h := go_ifn hc h
        refine go_pick [0, 1, 2, 3, 4] rfl ?_
        exact jqX4_countFrom_B_130_70 w tx Q dd μ rec a0 a1 hrec v3 v4    _ h hK
      · have h := go_ifp hc h
        refine go_aload_n dX4_countFrom_109 0 rfl ?_
        refine go_iconst (v := 1) dX4_countFrom_110 (by decide) ?_
        refine go_iload_n dX4_countFrom_111 1 rfl ?_
        refine go_aload_n dX4_countFrom_112 0 rfl ?_
        refine pp_getR dX4_countFrom_113 ff_X4_24 (Or.inr ⟨_, rfl⟩) sh_387 rf_387_5 ?_
        refine go_iload_n dX4_countFrom_116 1 rfl ?_
        obtain ⟨hz10, h⟩ := go_chk_e h
        refine pp_ild dX4_countFrom_117 sh_392 hz10 ?_
        refine go_iload dX4_countFrom_118 4 rfl ?_
        obtain ⟨q11, hq11, h⟩ := go_bind h
        refine pp_callV (as := [.int 1, .int a0, .int (μ.1 392 a0.toNatClampNeg), .int v4]) (st := []) (rv := (some (.int q11))) (μ1 := μ) (st1 := [.int q11]) dX4_countFrom_120 ll_X4_74 sh_387 (by decide) rfl (ctX4_likesMore  hq11) rfl (by omega) (Nat.le_of_ble_eq_true rfl) (go_Z_up w _) rfl rfl ?_
        refine go_if_ne 130 dX4_countFrom_123 (by decide) (fun hc => ?_) (fun hc => ?_)
        · have h := go_ifn hc h
          refine go_pick [0, 1, 2, 3, 4] rfl ?_
          exact jqX4_countFrom_B_130_70 w tx Q dd μ rec a0 a1 hrec v3 v4    _ h hK
        · have h := go_ifp hc h
          refine go_iconst (v := 1) dX4_countFrom_126 (by decide) ?_
          refine go_goto 131 dX4_countFrom_127 (by decide) ?_
          refine go_pick [0, 1, 2, 3, 4] rfl ?_
          exact jqX4_countFrom_B_131_70 w tx Q dd μ rec a0 a1 hrec v3 v4  1 (Or.inr rfl) _ h hK
set_option maxRecDepth 20000 in
set_option maxHeartbeats 4000000 in
theorem cmX4_countFrom_B (w : go_Wd) (tx : Nat) (Q : Option Value → go_M → Prop) (dd : Nat) (μ : PM) (rec : PM → Int32 → Int32 → Option (Int32 × PM)) (a0 : Int32) (a1 : Int32) (hrec : ∀ (μ : PM) (x y : Int32) (out : Int32 × PM), rec μ x y = some out → Ct w dd 0 0 mtX4_countFrom [.ref 387, .int x, .int y] (go_mk tx μ) (fun r' M' => r' = some (.int out.1) ∧ M' = go_mk tx out.2)) (out : Int32 × PM) (h : fX4_countFrom_B μ rec a0 a1 = some out) (hK : Q (some (.int out.1)) (go_mk tx out.2)) : Go w (dd + 9) 0 0 mtX4_countFrom 0 [(0, .ref 387), (1, .int a0), (2, .int a1)] [] (go_mk tx μ) (go_Z w Q) := by
  unfold fX4_countFrom_B at h
  refine go_iload_n dX4_countFrom_0 1 rfl ?_
  refine go_aload_n dX4_countFrom_1 0 rfl ?_
  refine pp_getR dX4_countFrom_2 ff_X4_30 (Or.inl ⟨_, rfl⟩) sh_387 rf_387_0 ?_
  refine pp_getR dX4_countFrom_5 ff_X4_53 (Or.inl ⟨_, rfl⟩) go_isV_1.1 rf_1_10 ?_
  refine pp_getI dX4_countFrom_8 ff_X4_57 (by decide) go_isW_12.1 ?_
  refine go_icmp_ge 19 dX4_countFrom_11 (by decide) (fun hc => ?_) (fun hc => ?_)
  · have h := go_ifp hc h
    refine go_pick [0] rfl ?_
    exact jqX4_countFrom_B_19 w tx Q dd μ rec a0 a1 hrec     _ h hK
  · have h := go_ifn hc h
    refine go_iload_n dX4_countFrom_14 1 rfl ?_
    refine go_iconst (v := 5) dX4_countFrom_15 (by decide) ?_
    refine go_icmp_lt 36 dX4_countFrom_16 (by decide) (fun hc => ?_) (fun hc => ?_)
    · have h := go_ifp hc h
      refine go_aload_n dX4_countFrom_36 0 rfl ?_
      refine pp_getR dX4_countFrom_37 ff_X4_21 (Or.inr ⟨_, rfl⟩) sh_387 rf_387_4 ?_
      refine go_iload_n dX4_countFrom_40 1 rfl ?_
      obtain ⟨hz2, h⟩ := go_chk_e h
      refine pp_ild dX4_countFrom_41 sh_391 hz2 ?_
      refine go_iconst (v := (-1)) dX4_countFrom_42 (by decide) ?_
      refine go_icmp_eq 56 dX4_countFrom_43 (by decide) (fun hc => ?_) (fun hc => ?_)
      · have h := go_ifp hc h
        refine go_pick [0, 1, 2] rfl ?_
        exact jqX4_countFrom_B_56 w tx Q dd μ rec a0 a1 hrec     _ h hK
      · have h := go_ifn hc h
        refine go_aload_n dX4_countFrom_46 0 rfl ?_
        refine pp_getR dX4_countFrom_47 ff_X4_24 (Or.inr ⟨_, rfl⟩) sh_387 rf_387_5 ?_
        refine go_iload_n dX4_countFrom_50 1 rfl ?_
        obtain ⟨hz4, h⟩ := go_chk_e h
        refine pp_ild dX4_countFrom_51 sh_392 hz4 ?_
        refine go_iconst (v := (-1)) dX4_countFrom_52 (by decide) ?_
        refine go_icmp_ne 65 dX4_countFrom_53 (by decide) (fun hc => ?_) (fun hc => ?_)
        · have h := go_ifn hc h
          refine go_iconst (v := 0) dX4_countFrom_65 (by decide) ?_
          refine go_istore_n dX4_countFrom_66 (by decide) rfl ?_
          show Go w (dd + 9) 0 0 mtX4_countFrom 67 [(3, .int 0), (0, .ref 387), (1, .int a0), (2, .int a1)] [] (go_mk tx μ) (go_Z w Q)
          refine go_iconst (v := 0) dX4_countFrom_67 (by decide) ?_
          refine go_istore dX4_countFrom_68 (by decide) rfl ?_
          show Go w (dd + 9) 0 0 mtX4_countFrom 70 [(4, .int 0), (3, .int 0), (0, .ref 387), (1, .int a0), (2, .int a1)] [] (go_mk tx μ) (go_Z w Q)
          obtain ⟨ρ12, hρ12, h⟩ := go_bind h
          refine go_pick [2, 3, 4, 1, 0] rfl ?_
          refine go_lp (G := ggX4_countFrom_B_70 w tx Q dd rec a0 a1 ) (E := eeX4_countFrom_B_70 w tx Q dd rec a0 a1 ) (fun s out h hK => lqX4_countFrom_B_70 w tx Q dd rec a0 a1 hrec   s.1 s.2.1 s.2.2 out h hK) go_fuel (0, 0, μ) ρ12 hρ12 ?_
          cases h
          exact hK
        · have h := go_ifp hc h
          refine go_pick [0, 1, 2] rfl ?_
          exact jqX4_countFrom_B_56 w tx Q dd μ rec a0 a1 hrec     _ h hK
    · have h := go_ifn hc h
      refine go_pick [0] rfl ?_
      exact jqX4_countFrom_B_19 w tx Q dd μ rec a0 a1 hrec     _ h hK
def cfF : Nat → PM → Int32 → Int32 → Option (Int32 × PM)
  | 0, _, _, _ => none
  | n + 1, μ, x, y => fX4_countFrom_B μ (cfF n) x y
theorem cfF_ok (w : go_Wd) (tx : Nat) : ∀ (n : Nat) (μ : PM) (x y : Int32) (out : Int32 × PM), cfF n μ x y = some out → Ct w (9 * n) 0 0 mtX4_countFrom [.ref 387, .int x, .int y] (go_mk tx μ) (fun r' M' => r' = some (.int out.1) ∧ M' = go_mk tx out.2) := by
  intro n
  induction n with
  | zero => intro μ x y out h; cases h
  | succ n ih =>
    intro μ x y out h
    exact go_entry rfl (by decide) (Nat.le_of_ble_eq_true rfl) (cmX4_countFrom_B w tx _ (9 * n) μ (cfF n) x y (fun μ x y out h => ih μ x y out h) out h ⟨rfl, rfl⟩)
def fX4_countFrom (μ : PM) (a0 : Int32) (a1 : Int32) : Option (Int32 × PM) := cfF 10 μ a0 a1
theorem ctX4_countFrom {w : go_Wd} {tx : Nat} {μ : PM} {a0 : Int32} {a1 : Int32} {r : Int32} {μ1 : PM} (h : fX4_countFrom μ a0 a1 = some (r, μ1)) : Ct w 90 0 0 mtX4_countFrom [.ref 387, .int a0, .int a1] (go_mk tx μ) (fun r' M' => r' = some (.int r) ∧ M' = go_mk tx μ1) := cfF_ok w tx 10 μ a0 a1 (r, μ1) h
def fX4_countStable (μ : PM)  : Option (Int32 × PM) :=
  (fX4_settle μ 1).bind fun q1 => go_let (pm_cp q1 388 391 0 0 5) fun μ2 => (fX4_settle μ2 0).bind fun q3 => go_let (pm_cp q3 388 392 0 0 5) fun μ4 => (fJ7_fill_53178 μ4 393 5 (-1)).bind fun q5 => (fX4_countFrom q5 0 0).bind fun q6 => some ((q6.1, q6.2))
set_option maxRecDepth 20000 in
set_option maxHeartbeats 4000000 in
theorem cmX4_countStable (w : go_Wd) (tx : Nat) (Q : Option Value → go_M → Prop) (μ : PM)  (out : Int32 × PM) (h : fX4_countStable μ = some out) (hK : Q (some (.int out.1)) (go_mk tx out.2)) : Go w 91 0 0 mtX4_countStable 0 [(0, .ref 387)] [] (go_mk tx μ) (go_Z w Q) := by
  unfold fX4_countStable at h
  refine go_aload_n dX4_countStable_0 0 rfl ?_
  refine go_iconst (v := 1) dX4_countStable_1 (by decide) ?_
  obtain ⟨q1, hq1, h⟩ := go_bind h
  refine pp_callV (as := [.int 1]) (st := []) (rv := none) (μ1 := q1) (st1 := []) dX4_countStable_2 ll_X4_96 sh_387 (by decide) rfl (ctX4_settle  hq1) rfl (Nat.le_of_ble_eq_true rfl) (Nat.le_of_ble_eq_true rfl) (go_Z_up w _) rfl rfl ?_
  refine go_aload_n dX4_countStable_5 0 rfl ?_
  refine pp_getR dX4_countStable_6 ff_X4_9 (Or.inr ⟨_, rfl⟩) sh_387 rf_387_1 ?_
  refine go_iconst (v := 0) dX4_countStable_9 (by decide) ?_
  refine go_aload_n dX4_countStable_10 0 rfl ?_
  refine pp_getR dX4_countStable_11 ff_X4_21 (Or.inr ⟨_, rfl⟩) sh_387 rf_387_4 ?_
  refine go_iconst (v := 0) dX4_countStable_14 (by decide) ?_
  refine go_iconst (v := 5) dX4_countStable_15 (by decide) ?_
  obtain ⟨μ2, hμ2, h⟩ := go_let_e h
  refine pp_copy (q0 := 0) (q1 := 0) (q2 := 5) dX4_countStable_16 ac_X4_100 (by decide) (Nat.le_of_ble_eq_true rfl) sh_388 sh_391 (by decide) hμ2 ?_
  refine go_aload_n dX4_countStable_19 0 rfl ?_
  refine go_iconst (v := 0) dX4_countStable_20 (by decide) ?_
  obtain ⟨q3, hq3, h⟩ := go_bind h
  refine pp_callV (as := [.int 0]) (st := []) (rv := none) (μ1 := q3) (st1 := []) dX4_countStable_21 ll_X4_96 sh_387 (by decide) rfl (ctX4_settle  hq3) rfl (Nat.le_of_ble_eq_true rfl) (Nat.le_of_ble_eq_true rfl) (go_Z_up w _) rfl rfl ?_
  refine go_aload_n dX4_countStable_24 0 rfl ?_
  refine pp_getR dX4_countStable_25 ff_X4_9 (Or.inr ⟨_, rfl⟩) sh_387 rf_387_1 ?_
  refine go_iconst (v := 0) dX4_countStable_28 (by decide) ?_
  refine go_aload_n dX4_countStable_29 0 rfl ?_
  refine pp_getR dX4_countStable_30 ff_X4_24 (Or.inr ⟨_, rfl⟩) sh_387 rf_387_5 ?_
  refine go_iconst (v := 0) dX4_countStable_33 (by decide) ?_
  refine go_iconst (v := 5) dX4_countStable_34 (by decide) ?_
  obtain ⟨μ4, hμ4, h⟩ := go_let_e h
  refine pp_copy (q0 := 0) (q1 := 0) (q2 := 5) dX4_countStable_35 ac_X4_100 (by decide) (Nat.le_of_ble_eq_true rfl) sh_388 sh_392 (by decide) hμ4 ?_
  refine go_aload_n dX4_countStable_38 0 rfl ?_
  refine pp_getR dX4_countStable_39 ff_X4_27 (Or.inr ⟨_, rfl⟩) sh_387 rf_387_6 ?_
  refine go_iconst (v := (-1)) dX4_countStable_42 (by decide) ?_
  obtain ⟨q5, hq5, h⟩ := go_bind h
  refine pp_callS (as := [.ref 393, .int (-1)]) (st := []) (rv := none) (μ1 := q5) (st1 := []) dX4_countStable_43 ll_X4_78 (ctJ7_fill_53178 sh_393 hq5) rfl (Nat.le_of_ble_eq_true rfl) (Nat.le_of_ble_eq_true rfl) (go_Z_up w _) rfl rfl ?_
  refine go_aload_n dX4_countStable_46 0 rfl ?_
  refine go_iconst (v := 0) dX4_countStable_47 (by decide) ?_
  refine go_iconst (v := 0) dX4_countStable_48 (by decide) ?_
  obtain ⟨q6, hq6, h⟩ := go_bind h
  refine pp_callV (as := [.int 0, .int 0]) (st := []) (rv := (some (.int q6.1))) (μ1 := q6.2) (st1 := [.int q6.1]) dX4_countStable_49 ll_X4_106 sh_387 (by decide) rfl (ctX4_countFrom  hq6) rfl (Nat.le_of_ble_eq_true rfl) (Nat.le_of_ble_eq_true rfl) (go_Z_up w _) rfl rfl ?_
  cases h
  exact go_iret dX4_countStable_52 rfl hK
theorem ctX4_countStable {w : go_Wd} {tx : Nat} {μ : PM}  {r : Int32} {μ1 : PM}  (h : fX4_countStable μ = some (r, μ1)) : Ct w 91 0 0 mtX4_countStable [.ref 387] (go_mk tx μ) (fun r' M' => r' = some (.int r) ∧ M' = go_mk tx μ1) :=
  go_entry rfl (by decide) (Nat.le_of_ble_eq_true rfl) (cmX4_countStable w tx _ μ  _ h ⟨rfl, rfl⟩)
def lbX5_look_37 (a0 : Option Nat) (a1 : Nat) (a2 : Int32) (a3 : Int32) (a4 : Int32)  (v6 : Int32) (μ : PM) : Option ((Int32 × PM) ⊕ (PM)) :=
  (if a4 < v6 then some (.inr (μ)) else (if 10 ≤ v6 then some (.inr (μ)) else (if (fX11_hasBit (μ.1 a1 7) v6) = 0 then some (.inl ((v6 + 1), μ)) else go_let (pm_wi μ 399 1 ((μ.1 399 1) ||| ((1 : Int32) <<< (v6 &&& 31)))) fun μ3 => (fX2_askBreaks μ3 a0 a1 a2 v6).bind fun q4 => go_chk v6 10 <| go_let (pm_wi q4.2 400 v6.toNatClampNeg (10 - q4.1)) fun μ5 => some (.inl ((v6 + 1), μ5)))))
def fX5_look (μ : PM) (a0 : Option Nat) (a1 : Nat) (a2 : Int32) (a3 : Int32) (a4 : Int32) : Option (PM) :=
  go_let (pm_wi μ 399 1 0) fun μ1 => (if a2 < 0 then some (μ1) else (if 6 ≤ a2 then some (μ1) else go_chk a2 6 <| (if (μ1.1 (a1 + 2) a2.toNatClampNeg) ≤ 1 then some (μ1) else (if 0 ≤ a3 then ((lp (fun s => lbX5_look_37 a0 a1 a2 a3 a4 s.1 s.2) go_fuel ((a3 + 1), μ1)).bind fun ρ7 => some ρ7) else some (μ1)))))
def ggX5_look_37 (w : go_Wd) (tx : Nat) (Q : Option Value → go_M → Prop) (a0 : Option Nat) (a1 : Nat) (a2 : Int32) (a3 : Int32) (a4 : Int32)  (s : Int32 × PM) : Prop := Go w 4 0 0 mtX5_look 37 [(0, .ref 399), (1, go_on a0), (2, .ref a1), (3, .int a2), (5, .int a4), (6, .int s.1)] [] (go_mk tx s.2) (go_Z w Q)
def eeX5_look_37 (w : go_Wd) (tx : Nat) (Q : Option Value → go_M → Prop) (a0 : Option Nat) (a1 : Nat) (a2 : Int32) (a3 : Int32) (a4 : Int32)  (y : PM) : Prop := Q none (go_mk tx y)
set_option maxRecDepth 20000 in
set_option maxHeartbeats 4000000 in
theorem lqX5_look_37 (w : go_Wd) (tx : Nat) (Q : Option Value → go_M → Prop) (a0 : Option Nat) (a1 : Nat) (a2 : Int32) (a3 : Int32) (a4 : Int32) (hk0 : ∀ q, a0 = some q → go_isT q) (hk1 : go_isW a1)   (v6 : Int32) (μ : PM) (out : (Int32 × PM) ⊕ (PM)) (h : lbX5_look_37 a0 a1 a2 a3 a4  v6 μ = some out) (hK : go_out (ggX5_look_37 w tx Q a0 a1 a2 a3 a4 ) (eeX5_look_37 w tx Q a0 a1 a2 a3 a4 ) out) : ggX5_look_37 w tx Q a0 a1 a2 a3 a4  (v6, μ) := by
  unfold lbX5_look_37 at h
  show Go w 4 0 0 mtX5_look 37 [(0, .ref 399), (1, go_on a0), (2, .ref a1), (3, .int a2), (5, .int a4), (6, .int v6)] [] (go_mk tx μ) (go_Z w Q)
  refine go_iload dX5_look_37 5 rfl ?_
  refine go_iload dX5_look_39 4 rfl ?_
  refine go_icmp_gt 104 dX5_look_41 (by decide) (fun hc => ?_) (fun hc => ?_)
  · have h := go_ifp hc h
    cases h
    exact go_vret dX5_look_104 rfl hK
  · have h := go_ifn hc h
    refine go_iload dX5_look_44 5 rfl ?_
    refine go_bipush (v := 10) dX5_look_46 (by decide) ?_
    refine go_icmp_ge 104 dX5_look_48 (by decide) (fun hc => ?_) (fun hc => ?_)
    · have h := go_ifp hc h
      cases h
      exact go_vret dX5_look_104 rfl hK
    · have h := go_ifn hc h
      refine go_aload_n dX5_look_51 2 rfl ?_
      refine pp_getI dX5_look_52 ff_X5_28 (by decide) hk1.1 ?_
      refine go_iload dX5_look_55 5 rfl ?_
      refine pp_callSN (as := [.int (μ.1 a1 7), .int v6]) (st := []) (rv := (some (.int (fX11_hasBit (μ.1 a1 7) v6)))) (μ1 := μ) (st1 := [.int (fX11_hasBit (μ.1 a1 7) v6)]) dX5_look_57 ll_X5_29 (ctX11_hasBit  rfl) rfl (Nat.le_of_ble_eq_true rfl) (Nat.le_of_ble_eq_true rfl) (go_Z_up w _) rfl rfl ?_
      refine go_if_eq 98 dX5_look_60 (by decide) (fun hc => ?_) (fun hc => ?_)
      · have h := go_ifp hc h
        refine go_iinc (v := (v6 + 1)) dX5_look_98 5 rfl rfl (by decide) rfl ?_
        show Go w 4 0 0 mtX5_look 101 [(6, .int (v6 + 1)), (0, .ref 399), (1, go_on a0), (2, .ref a1), (3, .int a2), (5, .int a4)] [] (go_mk tx μ) (go_Z w Q)
        refine go_goto 37 dX5_look_101 (by decide) ?_
        cases h
        have hK : Go w 4 0 0 mtX5_look 37 [(0, .ref 399), (1, go_on a0), (2, .ref a1), (3, .int a2), (5, .int a4), (6, .int (v6 + 1))] [] (go_mk tx μ) (go_Z w Q) := hK
        exact go_pick [1, 2, 3, 4, 5, 0] rfl hK
      · have h := go_ifn hc h
        refine go_aload_n dX5_look_63 0 rfl ?_
        refine go_dup dX5_look_64 rfl ?_
        refine pp_getI dX5_look_65 ff_X5_19 (by decide) sh_399 ?_
        refine go_iconst (v := 1) dX5_look_68 (by decide) ?_
        refine go_iload dX5_look_69 5 rfl ?_
        refine go_ishl dX5_look_71 ?_
        refine go_ior dX5_look_72 ?_
        obtain ⟨μ3, hμ3, h⟩ := go_let_e h
        refine pp_putI dX5_look_73 ff_X5_19 (Or.inl rfl) sh_399 hμ3 ?_
        refine go_aload_n dX5_look_76 0 rfl ?_
        refine pp_getR dX5_look_77 ff_X5_9 (Or.inr ⟨_, rfl⟩) sh_399 rf_399_2 ?_
        refine go_iload dX5_look_80 5 rfl ?_
        refine go_bipush (v := 10) dX5_look_82 (by decide) ?_
        refine go_aload_n dX5_look_84 0 rfl ?_
        refine pp_getR dX5_look_85 ff_X5_15 (Or.inl ⟨_, rfl⟩) sh_399 rf_399_0 ?_
        refine go_aloadO dX5_look_88 1 rfl ?_
        refine go_aload_n dX5_look_89 2 rfl ?_
        refine go_iload_n dX5_look_90 3 rfl ?_
        refine go_iload dX5_look_91 5 rfl ?_
        obtain ⟨q4, hq4, h⟩ := go_bind h
        refine pp_callV (as := [go_on a0, .ref a1, .int a2, .int v6]) (st := [.int 10, .int v6, .ref 400]) (rv := (some (.int q4.1))) (μ1 := q4.2) (st1 := [.int q4.1, .int 10, .int v6, .ref 400]) dX5_look_93 ll_X5_33 sh_383 (by decide) rfl (ctX2_askBreaks hk0 hk1 hq4) rfl (Nat.le_of_ble_eq_true rfl) (Nat.le_of_ble_eq_true rfl) (go_Z_up w _) rfl rfl ?_
        refine go_isub dX5_look_96 ?_
        obtain ⟨hz6, h⟩ := go_chk_e h
        obtain ⟨μ5, hμ5, h⟩ := go_let_e h
        refine pp_ist dX5_look_97 sh_400 hz6 hμ5 ?_
        refine go_iinc (v := (v6 + 1)) dX5_look_98 5 rfl rfl (by decide) rfl ?_
        show Go w 4 0 0 mtX5_look 101 [(6, .int (v6 + 1)), (0, .ref 399), (1, go_on a0), (2, .ref a1), (3, .int a2), (5, .int a4)] [] (go_mk tx μ5) (go_Z w Q)
        refine go_goto 37 dX5_look_101 (by decide) ?_
        cases h
        have hK : Go w 4 0 0 mtX5_look 37 [(0, .ref 399), (1, go_on a0), (2, .ref a1), (3, .int a2), (5, .int a4), (6, .int (v6 + 1))] [] (go_mk tx μ5) (go_Z w Q) := hK
        exact go_pick [1, 2, 3, 4, 5, 0] rfl hK
set_option maxRecDepth 20000 in
set_option maxHeartbeats 4000000 in
theorem cmX5_look (w : go_Wd) (tx : Nat) (Q : Option Value → go_M → Prop) (μ : PM) (a0 : Option Nat) (a1 : Nat) (a2 : Int32) (a3 : Int32) (a4 : Int32) (hk0 : ∀ q, a0 = some q → go_isT q) (hk1 : go_isW a1) (out : PM) (h : fX5_look μ a0 a1 a2 a3 a4 = some out) (hK : Q none (go_mk tx out)) : Go w 4 0 0 mtX5_look 0 [(0, .ref 399), (1, go_on a0), (2, .ref a1), (3, .int a2), (4, .int a3), (5, .int a4)] [] (go_mk tx μ) (go_Z w Q) := by
  unfold fX5_look at h
  refine go_aload_n dX5_look_0 0 rfl ?_
  refine go_iconst (v := 0) dX5_look_1 (by decide) ?_
  obtain ⟨μ1, hμ1, h⟩ := go_let_e h
  refine pp_putI dX5_look_2 ff_X5_19 (Or.inl rfl) sh_399 hμ1 ?_
  refine go_iload_n dX5_look_5 3 rfl ?_
  refine go_if_lt 30 dX5_look_6 (by decide) (fun hc => ?_) (fun hc => ?_)
  · have h := go_ifp hc h
    cases h
    exact go_vret dX5_look_30 rfl hK
  · have h := go_ifn hc h
    refine go_iload_n dX5_look_9 3 rfl ?_
    refine go_bipush (v := 6) dX5_look_10 (by decide) ?_
    refine go_icmp_ge 30 dX5_look_12 (by decide) (fun hc => ?_) (fun hc => ?_)
    · have h := go_ifp hc h
      cases h
      exact go_vret dX5_look_30 rfl hK
    · have h := go_ifn hc h
      refine go_aload_n dX5_look_15 2 rfl ?_
      refine pp_getR dX5_look_16 ff_X5_23 (Or.inr ⟨_, rfl⟩) hk1.1 (go_RF_ne hk1.2.2.2.2.2.2.2.2.2 hk1.2.2.2.2.2.2.1) ?_
      refine go_iload_n dX5_look_19 3 rfl ?_
      obtain ⟨hz2, h⟩ := go_chk_e h
      refine pp_ild dX5_look_20 hk1.2.2.1 hz2 ?_
      refine go_iconst (v := 1) dX5_look_21 (by decide) ?_
      refine go_icmp_le 30 dX5_look_22 (by decide) (fun hc => ?_) (fun hc => ?_)
      · have h := go_ifp hc h
        cases h
        exact go_vret dX5_look_30 rfl hK
      · have h := go_ifn hc h
        refine go_iload dX5_look_25 4 rfl ?_
        refine go_if_ge 31 dX5_look_27 (by decide) (fun hc => ?_) (fun hc => ?_)
        · have h := go_ifp hc h
          refine go_iload dX5_look_31 4 rfl ?_
          refine go_iconst (v := 1) dX5_look_33 (by decide) ?_
          refine go_iadd dX5_look_34 ?_
          refine go_istore dX5_look_35 (by decide) rfl ?_
          show Go w 4 0 0 mtX5_look 37 [(6, .int (a3 + 1)), (0, .ref 399), (1, go_on a0), (2, .ref a1), (3, .int a2), (4, .int a3), (5, .int a4)] [] (go_mk tx μ1) (go_Z w Q)
          obtain ⟨ρ7, hρ7, h⟩ := go_bind h
          refine go_pick [1, 2, 3, 4, 6, 0] rfl ?_
          refine go_lp (G := ggX5_look_37 w tx Q a0 a1 a2 a3 a4 ) (E := eeX5_look_37 w tx Q a0 a1 a2 a3 a4 ) (fun s out h hK => lqX5_look_37 w tx Q a0 a1 a2 a3 a4 hk0 hk1   s.1 s.2 out h hK) go_fuel ((a3 + 1), μ1) ρ7 hρ7 ?_
          cases h
          exact hK
        · have h := go_ifn hc h
          cases h
          exact go_vret dX5_look_30 rfl hK
theorem ctX5_look {w : go_Wd} {tx : Nat} {μ : PM} {a0 : Option Nat} {a1 : Nat} {a2 : Int32} {a3 : Int32} {a4 : Int32} {μ1 : PM} (hk0 : ∀ q, a0 = some q → go_isT q) (hk1 : go_isW a1) (h : fX5_look μ a0 a1 a2 a3 a4 = some μ1) : Ct w 4 0 0 mtX5_look [.ref 399, go_on a0, .ref a1, .int a2, .int a3, .int a4] (go_mk tx μ) (fun r' M' => r' = none ∧ M' = go_mk tx μ1) :=
  go_entry2 rfl (by decide) (by cases a0 <;> exact Nat.le_of_ble_eq_true rfl) (by cases a0 <;> rfl) (cmX5_look w tx _ μ a0 a1 a2 a3 a4 hk0 hk1 _ h ⟨rfl, rfl⟩)