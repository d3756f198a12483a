def jjX0_drift_224_173 (μ : PM) (a0 : Option Nat) (a1 : Nat) (a2 : Int32) (v4 : Int32) (v6 : Int32) (s0 : Int32) : Option ((Int32 × PM) ⊕ ((Int32 × PM) ⊕ (Int32 × PM))) :=
  (if s0 = 0 then some (.inl ((v6 + 1), μ)) else (fX2_askClaims μ a0 a1 a2 v4 v6).bind fun q4 => (if q4.1 ≤ 0 then some (.inl ((v6 + 1), q4.2)) else some (.inr (.inl (v6, q4.2)))))
def jjX0_drift_223_173 (μ : PM) (a0 : Option Nat) (a1 : Nat) (a2 : Int32) (v4 : Int32) (v6 : Int32)  : Option ((Int32 × PM) ⊕ ((Int32 × PM) ⊕ (Int32 × PM))) :=
  jjX0_drift_224_173 μ a0 a1 a2 v4 v6 0
def lbX0_drift_173 (a0 : Option Nat) (a1 : Nat) (a2 : Int32) (v4 : Int32) (v6 : Int32) (μ : PM) : Option ((Int32 × PM) ⊕ ((Int32 × PM) ⊕ (Int32 × PM))) :=
  (if (μ.1 a1 6) ≤ v6 then some (.inr (.inr ((0, μ)))) else (if 5 ≤ v6 then some (.inr (.inr ((0, μ)))) else go_chk v6 5 <| (if (μ.1 (a1 + 3) v6.toNatClampNeg) = v4 then go_chk v6 5 <| go_chk a2 6 <| (if (μ.1 4 v6.toNatClampNeg) < (μ.1 (a1 + 2) a2.toNatClampNeg) then jjX0_drift_223_173 μ a0 a1 a2 v4 v6 else jjX0_drift_224_173 μ a0 a1 a2 v4 v6 1) else jjX0_drift_223_173 μ a0 a1 a2 v4 v6)))
def jjX0_drift_170 (μ : PM) (a0 : Option Nat) (a1 : Nat) (a2 : Int32) (v4 : Int32)  : Option (Int32 × PM) :=
  ((lp (fun s => lbX0_drift_173 a0 a1 a2 v4 s.1 s.2) go_fuel (0, μ)).bind fun ρ7 => go_cs ρ7 (fun e8 => go_chk a2 6 <| go_let (pm_wi e8.2 (a1 + 1) a2.toNatClampNeg (20 + e8.1)) fun μ9 => (fX10_writeLine μ9 a1 a2 0 e8.1).bind fun q11 => some ((1, q11))) (fun y => some y))
def jjX0_drift_120 (μ : PM) (a0 : Option Nat) (a1 : Nat) (a2 : Int32) (v4 : Int32) (s0 : Int32) : Option (Int32 × PM) :=
  (if s0 = 0 then jjX0_drift_170 μ a0 a1 a2 v4 else go_let (fX10_drawTenth μ a1) fun q14 => (fX2_askBreaks q14.2 a0 a1 a2 v4).bind fun q15 => (if q15.1 ≤ q14.1 then jjX0_drift_170 q15.2 a0 a1 a2 v4 else go_chk a2 6 <| go_chk a2 6 <| go_let (pm_wi q15.2 (a1 + 2) a2.toNatClampNeg (((q15.2.1 (a1 + 2) a2.toNatClampNeg) + 1) / 2)) fun μ17 => (fX10_writeLine μ17 a1 a2 2 v4).bind fun q19 => jjX0_drift_170 q19 a0 a1 a2 v4))
def jjX0_drift_119 (μ : PM) (a0 : Option Nat) (a1 : Nat) (a2 : Int32) (v4 : Int32)  : Option (Int32 × PM) :=
  jjX0_drift_120 μ a0 a1 a2 v4 0
def jjX0_drift_57 (μ : PM) (a0 : Option Nat) (a1 : Nat) (a2 : Int32)  (s0 : Int32) (s1 : Int32) : Option (Int32 × PM) :=
  (if (s0 + s1) < 9 then go_chk a2 6 <| go_let (pm_wi μ (a1 + 1) a2.toNatClampNeg (s0 + s1)) fun μ12 => (if (fX11_hasBit (μ12.1 a1 7) (s0 + s1)) = 0 then jjX0_drift_119 μ12 a0 a1 a2 ((s0 + s1)) else go_chk a2 6 <| (if (μ12.1 (a1 + 2) a2.toNatClampNeg) ≤ 1 then jjX0_drift_119 μ12 a0 a1 a2 ((s0 + s1)) else jjX0_drift_120 μ12 a0 a1 a2 ((s0 + s1)) 1)) else go_chk a2 6 <| go_let (pm_wi μ (a1 + 1) a2.toNatClampNeg 10) fun μ21 => (fX10_writeLine μ21 a1 a2 1 9).bind fun q23 => some ((0, q23)))
def jjX0_drift_35 (μ : PM) (a0 : Option Nat) (a1 : Nat) (a2 : Int32) (v4 : Int32) (s0 : Int32) : Option (Int32 × PM) :=
  (if s0 = 0 then (if (μ.1 a1 8) ≤ 4 then jjX0_drift_57 μ a0 a1 a2 v4 1 else jjX0_drift_57 μ a0 a1 a2 v4 2) else jjX0_drift_170 μ a0 a1 a2 v4)
def jjX0_drift_34 (μ : PM) (a0 : Option Nat) (a1 : Nat) (a2 : Int32) (v4 : Int32)  : Option (Int32 × PM) :=
  jjX0_drift_35 μ a0 a1 a2 v4 0
def fX0_drift (μ : PM) (a0 : Option Nat) (a1 : Nat) (a2 : Int32) : Option (Int32 × PM) :=
  go_chk a2 6 <| go_let ((μ.1 (a1 + 1) a2.toNatClampNeg)) fun x2 => (if (fX11_hasBit (μ.1 1 12) x2) = 0 then jjX0_drift_34 μ a0 a1 a2 x2 else go_let (fX10_drawSide μ a1) fun q24 => (if q24.1 = 0 then jjX0_drift_35 q24.2 a0 a1 a2 x2 1 else jjX0_drift_34 q24.2 a0 a1 a2 x2))
def ggX0_drift_173 (w : go_Wd) (tx : Nat) (Q : Option Value → go_M → Prop) (a0 : Option Nat) (a1 : Nat) (a2 : Int32) (v4 : Int32) (s : Int32 × PM) : Prop := Go w 4 0 0 mtX0_drift 173 [(0, .ref 386), (1, go_on a0), (2, .ref a1), (3, .int a2), (4, .int v4), (6, .int s.1)] [] (go_mk tx s.2) (go_Z w Q)
def eeX0_drift_173 (w : go_Wd) (tx : Nat) (Q : Option Value → go_M → Prop) (a0 : Option Nat) (a1 : Nat) (a2 : Int32) (v4 : Int32) : (Int32 × PM) ⊕ (Int32 × PM) → Prop
  | .inl e => Go w 4 0 0 mtX0_drift 248 [(2, .ref a1), (3, .int a2), (6, .int e.1)] [] (go_mk tx e.2) (go_Z w Q)
  | .inr y => Q (some (.int y.1)) (go_mk tx y.2)
set_option maxRecDepth 20000 in
set_option maxHeartbeats 4000000 in
theorem jqX0_drift_224_173 (w : go_Wd) (tx : Nat) (Q : Option Value → go_M → Prop) (μ : PM) (a0 : Option Nat) (a1 : Nat) (a2 : Int32) (hk0 : ∀ q, a0 = some q → go_isT q) (hk1 : go_isW a1) (v4 : Int32) (v6 : Int32)  (s0 : Int32) (hs0 : s0 = 0 ∨ s0 = 1) (out : (Int32 × PM) ⊕ ((Int32 × PM) ⊕ (Int32 × PM))) (h : jjX0_drift_224_173 μ a0 a1 a2 v4 v6 s0 = some out) (hK : go_out (ggX0_drift_173 w tx Q a0 a1 a2 v4) (eeX0_drift_173 w tx Q a0 a1 a2 v4) out) : Go w 4 0 0 mtX0_drift 224 [(0, .ref 386), (1, go_on a0), (2, .ref a1), (3, .int a2), (4, .int v4), (6, .int v6)] [.int s0] (go_mk tx μ) (go_Z w Q) := by
  unfold jjX0_drift_224_173 at h
  refine go_istore dX0_drift_224 (by decide) rfl ?_
  show Go w 4 0 0 mtX0_drift 226 [(7, .int s0), (0, .ref 386), (1, go_on a0), (2, .ref a1), (3, .int a2), (4, .int v4), (6, .int v6)] [] (go_mk tx μ) (go_Z w Q)
  refine go_iload dX0_drift_226 0 rfl ?_
  refine go_if_eq 269 dX0_drift_228 (by decide) (fun hc => ?_) (fun hc => ?_)
  · have h := go_ifp hc h
    refine go_iinc (v := (v6 + 1)) dX0_drift_269 6 rfl rfl (by decide) rfl ?_
    show Go w 4 0 0 mtX0_drift 272 [(6, .int (v6 + 1)), (7, .int s0), (0, .ref 386), (1, go_on a0), (2, .ref a1), (3, .int a2), (4, .int v4)] [] (go_mk tx μ) (go_Z w Q)
    refine go_goto 173 dX0_drift_272 (by decide) ?_
    cases h
    have hK : Go w 4 0 0 mtX0_drift 173 [(0, .ref 386), (1, go_on a0), (2, .ref a1), (3, .int a2), (4, .int v4), (6, .int (v6 + 1))] [] (go_mk tx μ) (go_Z w Q) := hK
    exact go_pick [2, 3, 4, 5, 6, 0] rfl hK
  · have h := go_ifn hc h
    refine go_aload_n dX0_drift_231 1 rfl ?_
    refine pp_getR dX0_drift_232 ff_X0_15 (Or.inl ⟨_, rfl⟩) sh_386 rf_386_1 ?_
    refine go_aloadO dX0_drift_235 2 rfl ?_
    refine go_aload_n dX0_drift_236 3 rfl ?_
    refine go_iload_n dX0_drift_237 4 rfl ?_
    refine go_iload dX0_drift_238 5 rfl ?_
    refine go_iload dX0_drift_240 6 rfl ?_
    obtain ⟨q4, hq4, h⟩ := go_bind h
    refine pp_callV (as := [go_on a0, .ref a1, .int a2, .int v4, .int v6]) (st := []) (rv := (some (.int q4.1))) (μ1 := q4.2) (st1 := [.int q4.1]) dX0_drift_242 ll_X0_84 sh_383 (by decide) rfl (ctX2_askClaims hk0 hk1 hq4) rfl (Nat.le_of_ble_eq_true rfl) (Nat.le_of_ble_eq_true rfl) (go_Z_up w _) rfl rfl ?_
    refine go_if_le 269 dX0_drift_245 (by decide) (fun hc => ?_) (fun hc => ?_)
    · have h := go_ifp hc h
      refine go_iinc (v := (v6 + 1)) dX0_drift_269 6 rfl rfl (by decide) rfl ?_
      show Go w 4 0 0 mtX0_drift 272 [(6, .int (v6 + 1)), (7, .int s0), (0, .ref 386), (1, go_on a0), (2, .ref a1), (3, .int a2), (4, .int v4)] [] (go_mk tx q4.2) (go_Z w Q)
      refine go_goto 173 dX0_drift_272 (by decide) ?_
      cases h
      have hK : Go w 4 0 0 mtX0_drift 173 [(0, .ref 386), (1, go_on a0), (2, .ref a1), (3, .int a2), (4, .int v4), (6, .int (v6 + 1))] [] (go_mk tx q4.2) (go_Z w Q) := hK
      exact go_pick [2, 3, 4, 5, 6, 0] rfl hK
    · have h := go_ifn hc h
      cases h
      have hK : Go w 4 0 0 mtX0_drift 248 [(2, .ref a1), (3, .int a2), (6, .int v6)] [] (go_mk tx q4.2) (go_Z w Q) := hK
      exact go_pick [3, 4, 6] rfl hK
set_option maxRecDepth 20000 in
set_option maxHeartbeats 4000000 in
theorem jqX0_drift_223_173 (w : go_Wd) (tx : Nat) (Q : Option Value → go_M → Prop) (μ : PM) (a0 : Option Nat) (a1 : Nat) (a2 : Int32) (hk0 : ∀ q, a0 = some q → go_isT q) (hk1 : go_isW a1) (v4 : Int32) (v6 : Int32)    (out : (Int32 × PM) ⊕ ((Int32 × PM) ⊕ (Int32 × PM))) (h : jjX0_drift_223_173 μ a0 a1 a2 v4 v6  = some out) (hK : go_out (ggX0_drift_173 w tx Q a0 a1 a2 v4) (eeX0_drift_173 w tx Q a0 a1 a2 v4) out) : Go w 4 0 0 mtX0_drift 223 [(0, .ref 386), (1, go_on a0), (2, .ref a1), (3, .int a2), (4, .int v4), (6, .int v6)] [] (go_mk tx μ) (go_Z w Q) := by
  unfold jjX0_drift_223_173 at h
  refine go_iconst (v := 0) dX0_drift_223 (by decide) ?_
  refine go_pick [0, 1, 2, 3, 4, 5] rfl ?_
  exact jqX0_drift_224_173 w tx Q μ a0 a1 a2 hk0 hk1 v4 v6  0 (Or.inl rfl) _ h hK
set_option maxRecDepth 20000 in
set_option maxHeartbeats 4000000 in
theorem lqX0_drift_173 (w : go_Wd) (tx : Nat) (Q : Option Value → go_M → Prop) (a0 : Option Nat) (a1 : Nat) (a2 : Int32) (hk0 : ∀ q, a0 = some q → go_isT q) (hk1 : go_isW a1) (v4 : Int32)  (v6 : Int32) (μ : PM) (out : (Int32 × PM) ⊕ ((Int32 × PM) ⊕ (Int32 × PM))) (h : lbX0_drift_173 a0 a1 a2 v4 v6 μ = some out) (hK : go_out (ggX0_drift_173 w tx Q a0 a1 a2 v4) (eeX0_drift_173 w tx Q a0 a1 a2 v4) out) : ggX0_drift_173 w tx Q a0 a1 a2 v4 (v6, μ) := by
  unfold lbX0_drift_173 at h
  show Go w 4 0 0 mtX0_drift 173 [(0, .ref 386), (1, go_on a0), (2, .ref a1), (3, .int a2), (4, .int v4), (6, .int v6)] [] (go_mk tx μ) (go_Z w Q)
  refine go_iload dX0_drift_173 5 rfl ?_
  refine go_aload_n dX0_drift_175 2 rfl ?_
  refine pp_getI dX0_drift_176 ff_X0_75 (by decide) hk1.1 ?_
  refine go_icmp_ge 275 dX0_drift_179 (by decide) (fun hc => ?_) (fun hc => ?_)
  · have h := go_ifp hc h
    refine go_iconst (v := 0) dX0_drift_275 (by decide) ?_
    cases h
    exact go_zret dX0_drift_276 rfl (Or.inl rfl) hK
  · have h := go_ifn hc h
    refine go_iload dX0_drift_182 5 rfl ?_
    refine go_iconst (v := 5) dX0_drift_184 (by decide) ?_
    refine go_icmp_ge 275 dX0_drift_185 (by decide) (fun hc => ?_) (fun hc => ?_)
    · have h := go_ifp hc h
      refine go_iconst (v := 0) dX0_drift_275 (by decide) ?_
      cases h
      exact go_zret dX0_drift_276 rfl (Or.inl rfl) hK
    · have h := go_ifn hc h
      refine go_aload_n dX0_drift_188 2 rfl ?_
      refine pp_getR dX0_drift_189 ff_X0_78 (Or.inr ⟨_, rfl⟩) hk1.1 (go_RF_ne hk1.2.2.2.2.2.2.2.2.2 hk1.2.2.2.2.2.2.2.1) ?_
      refine go_iload dX0_drift_192 5 rfl ?_
      obtain ⟨hz3, h⟩ := go_chk_e h
      refine pp_ild dX0_drift_194 hk1.2.2.2.1 hz3 ?_
      refine go_iload dX0_drift_195 4 rfl ?_
      refine go_icmp_ne 223 dX0_drift_197 (by decide) (fun hc => ?_) (fun hc => ?_)
      · have h := go_ifn hc h
        refine go_pick [0, 1, 2, 3, 4, 5] rfl ?_
        exact jqX0_drift_223_173 w tx Q μ a0 a1 a2 hk0 hk1 v4 v6    _ h hK
      · have h := go_ifp hc h
        refine go_aload_n dX0_drift_200 0 rfl ?_
        refine pp_getR dX0_drift_201 ff_X0_9 (Or.inl ⟨_, rfl⟩) sh_386 rf_386_0 ?_
        refine pp_getR dX0_drift_204 ff_X0_81 (Or.inr ⟨_, rfl⟩) go_isV_1.1 rf_1_2 ?_
        refine go_iload dX0_drift_207 5 rfl ?_
        obtain ⟨hz5, h⟩ := go_chk_e h
        refine pp_ild dX0_drift_209 sh_4 hz5 ?_
        refine go_aload_n dX0_drift_210 2 rfl ?_
        refine pp_getR dX0_drift_211 ff_X0_68 (Or.inr ⟨_, rfl⟩) hk1.1 (go_RF_ne hk1.2.2.2.2.2.2.2.2.2 hk1.2.2.2.2.2.2.1) ?_
        refine go_iload_n dX0_drift_214 3 rfl ?_
        obtain ⟨hz6, h⟩ := go_chk_e h
        refine pp_ild dX0_drift_215 hk1.2.2.1 hz6 ?_
        refine go_icmp_lt 223 dX0_drift_216 (by decide) (fun hc => ?_) (fun hc => ?_)
        · have h := go_ifp hc h
          refine go_pick [0, 1, 2, 3, 4, 5] rfl ?_
          exact jqX0_drift_223_173 w tx Q μ a0 a1 a2 hk0 hk1 v4 v6    _ h hK
        · have h := go_ifn hc h
          refine go_iconst (v := 1) dX0_drift_219 (by decide) ?_
          refine go_goto 224 dX0_drift_220 (by decide) ?_
          refine go_pick [0, 1, 2, 3, 4, 5] rfl ?_
          exact jqX0_drift_224_173 w tx Q μ a0 a1 a2 hk0 hk1 v4 v6  1 (Or.inr rfl) _ h hK
set_option maxRecDepth 20000 in
set_option maxHeartbeats 4000000 in
theorem jqX0_drift_170 (w : go_Wd) (tx : Nat) (Q : Option Value → go_M → Prop) (μ : PM) (a0 : Option Nat) (a1 : Nat) (a2 : Int32) (hk0 : ∀ q, a0 = some q → go_isT q) (hk1 : go_isW a1) (v4 : Int32)    (out : Int32 × PM) (h : jjX0_drift_170 μ a0 a1 a2 v4  = some out) (hK : Q (some (.int out.1)) (go_mk tx out.2)) : Go w 4 0 0 mtX0_drift 170 [(0, .ref 386), (1, go_on a0), (2, .ref a1), (3, .int a2), (4, .int v4)] [] (go_mk tx μ) (go_Z w Q) := by
  unfold jjX0_drift_170 at h
  refine go_iconst (v := 0) dX0_drift_170 (by decide) ?_
  refine go_istore dX0_drift_171 (by decide) rfl ?_
  show Go w 4 0 0 mtX0_drift 173 [(6, .int 0), (0, .ref 386), (1, go_on a0), (2, .ref a1), (3, .int a2), (4, .int v4)] [] (go_mk tx μ) (go_Z w Q)
  obtain ⟨ρ7, hρ7, h⟩ := go_bind h
  refine go_pick [1, 2, 3, 4, 5, 0] rfl ?_
  refine go_lp (G := ggX0_drift_173 w tx Q a0 a1 a2 v4) (E := eeX0_drift_173 w tx Q a0 a1 a2 v4) (fun s out h hK => lqX0_drift_173 w tx Q a0 a1 a2 hk0 hk1 v4  s.1 s.2 out h hK) go_fuel (0, μ) ρ7 hρ7 ?_
  rcases ρ7 with e8 | y
  · have h := go_csl h
    show Go w 4 0 0 mtX0_drift 248 [(2, .ref a1), (3, .int a2), (6, .int e8.1)] [] (go_mk tx e8.2) (go_Z w Q)
    refine go_aload_n dX0_drift_248 0 rfl ?_
    refine pp_getR dX0_drift_249 ff_X0_32 (Or.inr ⟨_, rfl⟩) hk1.1 (go_RF_ne hk1.2.2.2.2.2.2.2.2.2 hk1.2.2.2.2.2.1) ?_
    refine go_iload_n dX0_drift_252 1 rfl ?_
    refine go_bipush (v := 20) dX0_drift_253 (by decide) ?_
    refine go_iload dX0_drift_255 2 rfl ?_
    refine go_iadd dX0_drift_257 ?_
    obtain ⟨hz10, h⟩ := go_chk_e h
    obtain ⟨μ9, hμ9, h⟩ := go_let_e h
    refine pp_ist dX0_drift_258 hk1.2.1 hz10 hμ9 ?_
    refine go_aload_n dX0_drift_259 0 rfl ?_
    refine go_iload_n dX0_drift_260 1 rfl ?_
    refine go_iconst (v := 0) dX0_drift_261 (by decide) ?_
    refine go_iload dX0_drift_262 2 rfl ?_
    obtain ⟨q11, hq11, h⟩ := go_bind h
    refine pp_callV (as := [.int a2, .int 0, .int e8.1]) (st := []) (rv := none) (μ1 := q11) (st1 := []) dX0_drift_264 ll_X0_61 hk1.1 (by decide) rfl (ctX10_writeLine hk1 hq11) rfl (Nat.le_of_ble_eq_true rfl) (Nat.le_of_ble_eq_true rfl) (go_Z_up w _) rfl rfl ?_
    refine go_iconst (v := 1) dX0_drift_267 (by decide) ?_
    cases h
    exact go_zret dX0_drift_268 rfl (Or.inr rfl) hK
  · have h := go_csr h
    cases h
    exact hK
set_option maxRecDepth 20000 in
set_option maxHeartbeats 4000000 in
theorem jqX0_drift_120 (w : go_Wd) (tx : Nat) (Q : Option Value → go_M → Prop) (μ : PM) (a0 : Option Nat) (a1 : Nat) (a2 : Int32) (hk0 : ∀ q, a0 = some q → go_isT q) (hk1 : go_isW a1) (v4 : Int32)  (s0 : Int32) (hs0 : s0 = 0 ∨ s0 = 1) (out : Int32 × PM) (h : jjX0_drift_120 μ a0 a1 a2 v4 s0 = some out) (hK : Q (some (.int out.1)) (go_mk tx out.2)) : Go w 4 0 0 mtX0_drift 120 [(0, .ref 386), (1, go_on a0), (2, .ref a1), (3, .int a2), (4, .int v4)] [.int s0] (go_mk tx μ) (go_Z w Q) := by
  unfold jjX0_drift_120 at h
  refine go_istore dX0_drift_120 (by decide) rfl ?_
  show Go w 4 0 0 mtX0_drift 122 [(6, .int s0), (0, .ref 386), (1, go_on a0), (2, .ref a1), (3, .int a2), (4, .int v4)] [] (go_mk tx μ) (go_Z w Q)
  refine go_iload dX0_drift_122 0 rfl ?_
  refine go_if_eq 170 dX0_drift_124 (by decide) (fun hc => ?_) (fun hc => ?_)
  · have h := go_ifp hc h
    refine go_pick [1, 2, 3, 4, 5] rfl ?_
    exact jqX0_drift_170 w tx Q μ a0 a1 a2 hk0 hk1 v4    _ h hK
  · have h := go_ifn hc h
    refine go_aload_n dX0_drift_127 3 rfl ?_
    obtain ⟨q14, hq14, h⟩ := go_let_e h
    refine pp_callV (as := []) (st := []) (rv := (some (.int q14.1))) (μ1 := q14.2) (st1 := [.int q14.1]) dX0_drift_128 ll_X0_19 hk1.1 (by decide) rfl (ctX10_drawTenth hk1 hq14.symm) rfl (Nat.le_of_ble_eq_true rfl) (Nat.le_of_ble_eq_true rfl) (go_Z_up w _) rfl rfl ?_
    refine go_aload_n dX0_drift_131 1 rfl ?_
    refine pp_getR dX0_drift_132 ff_X0_15 (Or.inl ⟨_, rfl⟩) sh_386 rf_386_1 ?_
    refine go_aloadO dX0_drift_135 2 rfl ?_
    refine go_aload_n dX0_drift_136 3 rfl ?_
    refine go_iload_n dX0_drift_137 4 rfl ?_
    refine go_iload dX0_drift_138 5 rfl ?_
    obtain ⟨q15, hq15, h⟩ := go_bind h
    refine pp_callV (as := [go_on a0, .ref a1, .int a2, .int v4]) (st := [.int q14.1]) (rv := (some (.int q15.1))) (μ1 := q15.2) (st1 := [.int q15.1, .int q14.1]) dX0_drift_140 ll_X0_71 sh_383 (by decide) rfl (ctX2_askBreaks hk0 hk1 hq15) rfl (Nat.le_of_ble_eq_true rfl) (Nat.le_of_ble_eq_true rfl) (go_Z_up w _) rfl rfl ?_
    refine go_icmp_ge 170 dX0_drift_143 (by decide) (fun hc => ?_) (fun hc => ?_)
    · have h := go_ifp hc h
      refine go_pick [1, 2, 3, 4, 5] rfl ?_
      exact jqX0_drift_170 w tx Q q15.2 a0 a1 a2 hk0 hk1 v4    _ h hK
    · have h := go_ifn hc h
      refine go_aload_n dX0_drift_146 3 rfl ?_
      refine pp_getR dX0_drift_147 ff_X0_68 (Or.inr ⟨_, rfl⟩) hk1.1 (go_RF_ne hk1.2.2.2.2.2.2.2.2.2 hk1.2.2.2.2.2.2.1) ?_
      refine go_iload_n dX0_drift_150 4 rfl ?_
      refine go_aload_n dX0_drift_151 3 rfl ?_
      refine pp_getR dX0_drift_152 ff_X0_68 (Or.inr ⟨_, rfl⟩) hk1.1 (go_RF_ne hk1.2.2.2.2.2.2.2.2.2 hk1.2.2.2.2.2.2.1) ?_
      refine go_iload_n dX0_drift_155 4 rfl ?_
      obtain ⟨hz16, h⟩ := go_chk_e h
      refine pp_ild dX0_drift_156 hk1.2.2.1 hz16 ?_
      refine go_iconst (v := 1) dX0_drift_157 (by decide) ?_
      refine go_iadd dX0_drift_158 ?_
      refine go_iconst (v := 2) dX0_drift_159 (by decide) ?_
      refine go_idiv dX0_drift_160 (by decide) ?_
      obtain ⟨hz18, h⟩ := go_chk_e h
      obtain ⟨μ17, hμ17, h⟩ := go_let_e h
      refine pp_ist dX0_drift_161 hk1.2.2.1 hz18 hμ17 ?_
      refine go_aload_n dX0_drift_162 3 rfl ?_
      refine go_iload_n dX0_drift_163 4 rfl ?_
      refine go_iconst (v := 2) dX0_drift_164 (by decide) ?_
      refine go_iload dX0_drift_165 5 rfl ?_
      obtain ⟨q19, hq19, h⟩ := go_bind h
      refine pp_callV (as := [.int a2, .int 2, .int v4]) (st := []) (rv := none) (μ1 := q19) (st1 := []) dX0_drift_167 ll_X0_61 hk1.1 (by decide) rfl (ctX10_writeLine hk1 hq19) rfl (Nat.le_of_ble_eq_true rfl) (Nat.le_of_ble_eq_true rfl) (go_Z_up w _) rfl rfl ?_
      refine go_pick [1, 2, 3, 4, 5] rfl ?_
      exact jqX0_drift_170 w tx Q q19 a0 a1 a2 hk0 hk1 v4    _ h hK
set_option maxRecDepth 20000 in
set_option maxHeartbeats 4000000 in
theorem jqX0_drift_119 (w : go_Wd) (tx : Nat) (Q : Option Value → go_M → Prop) (μ : PM) (a0 : Option Nat) (a1 : Nat) (a2 : Int32) (hk0 : ∀ q, a0 = some q → go_isT q) (hk1 : go_isW a1) (v4 : Int32)    (out : Int32 × PM) (h : jjX0_drift_119 μ a0 a1 a2 v4  = some out) (hK : Q (some (.int out.1)) (go_mk tx out.2)) : Go w 4 0 0 mtX0_drift 119 [(0, .ref 386), (1, go_on a0), (2, .ref a1), (3, .int a2), (4, .int v4)] [] (go_mk tx μ) (go_Z w Q) := by
  unfold jjX0_drift_119 at h
  refine go_iconst (v := 0) dX0_drift_119 (by decide) ?_
  refine go_pick [0, 1, 2, 3, 4] rfl ?_
  exact jqX0_drift_120 w tx Q μ a0 a1 a2 hk0 hk1 v4  0 (Or.inl rfl) _ h hK
set_option maxRecDepth 20000 in
set_option maxHeartbeats 4000000 in
theorem jqX0_drift_57 (w : go_Wd) (tx : Nat) (Q : Option Value → go_M → Prop) (μ : PM) (a0 : Option Nat) (a1 : Nat) (a2 : Int32) (hk0 : ∀ q, a0 = some q → go_isT q) (hk1 : go_isW a1)   (s0 : Int32) (s1 : Int32)  (out : Int32 × PM) (h : jjX0_drift_57 μ a0 a1 a2  s0 s1 = some out) (hK : Q (some (.int out.1)) (go_mk tx out.2)) : Go w 4 0 0 mtX0_drift 57 [(0, .ref 386), (1, go_on a0), (2, .ref a1), (3, .int a2)] [.int s1, .int s0] (go_mk tx μ) (go_Z w Q) := by
  unfold jjX0_drift_57 at h
  refine go_iadd dX0_drift_57 ?_
  refine go_istore dX0_drift_58 (by decide) rfl ?_
  show Go w 4 0 0 mtX0_drift 60 [(4, .int (s0 + s1)), (0, .ref 386), (1, go_on a0), (2, .ref a1), (3, .int a2)] [] (go_mk tx μ) (go_Z w Q)
  refine go_iload dX0_drift_60 0 rfl ?_
  refine go_bipush (v := 9) dX0_drift_62 (by decide) ?_
  refine go_icmp_lt 85 dX0_drift_64 (by decide) (fun hc => ?_) (fun hc => ?_)
  · have h := go_ifp hc h
    refine go_aload_n dX0_drift_85 3 rfl ?_
    refine pp_getR dX0_drift_86 ff_X0_32 (Or.inr ⟨_, rfl⟩) hk1.1 (go_RF_ne hk1.2.2.2.2.2.2.2.2.2 hk1.2.2.2.2.2.1) ?_
    refine go_iload_n dX0_drift_89 4 rfl ?_
    refine go_iload dX0_drift_90 0 rfl ?_
    obtain ⟨hz13, h⟩ := go_chk_e h
    obtain ⟨μ12, hμ12, h⟩ := go_let_e h
    refine pp_ist dX0_drift_92 hk1.2.1 hz13 hμ12 ?_
    refine go_aload_n dX0_drift_93 3 rfl ?_
    refine pp_getI dX0_drift_94 ff_X0_65 (by decide) hk1.1 ?_
    refine go_iload dX0_drift_97 0 rfl ?_
    refine pp_callSN (as := [.int (μ12.1 a1 7), .int (s0 + s1)]) (st := []) (rv := (some (.int (fX11_hasBit (μ12.1 a1 7) (s0 + s1))))) (μ1 := μ12) (st1 := [.int (fX11_hasBit (μ12.1 a1 7) (s0 + s1))]) dX0_drift_99 ll_X0_54 (ctX11_hasBit  rfl) rfl (Nat.le_of_ble_eq_true rfl) (Nat.le_of_ble_eq_true rfl) (go_Z_up w _) rfl rfl ?_
    refine go_if_eq 119 dX0_drift_102 (by decide) (fun hc => ?_) (fun hc => ?_)
    · have h := go_ifp hc h
      refine go_pick [1, 2, 3, 4, 0] rfl ?_
      exact jqX0_drift_119 w tx Q μ12 a0 a1 a2 hk0 hk1 ((s0 + s1))    _ h hK
    · have h := go_ifn hc h
      refine go_aload_n dX0_drift_105 3 rfl ?_
      refine pp_getR dX0_drift_106 ff_X0_68 (Or.inr ⟨_, rfl⟩) hk1.1 (go_RF_ne hk1.2.2.2.2.2.2.2.2.2 hk1.2.2.2.2.2.2.1) ?_
      refine go_iload_n dX0_drift_109 4 rfl ?_
      obtain ⟨hz20, h⟩ := go_chk_e h
      refine pp_ild dX0_drift_110 hk1.2.2.1 hz20 ?_
      refine go_iconst (v := 1) dX0_drift_111 (by decide) ?_
      refine go_icmp_le 119 dX0_drift_112 (by decide) (fun hc => ?_) (fun hc => ?_)
      · have h := go_ifp hc h
        refine go_pick [1, 2, 3, 4, 0] rfl ?_
        exact jqX0_drift_119 w tx Q μ12 a0 a1 a2 hk0 hk1 ((s0 + s1))    _ h hK
      · have h := go_ifn hc h
        refine go_iconst (v := 1) dX0_drift_115 (by decide) ?_
        refine go_goto 120 dX0_drift_116 (by decide) ?_
        refine go_pick [1, 2, 3, 4, 0] rfl ?_
        exact jqX0_drift_120 w tx Q μ12 a0 a1 a2 hk0 hk1 ((s0 + s1))  1 (Or.inr rfl) _ h hK
  · have h := go_ifn hc h
    refine go_aload_n dX0_drift_67 3 rfl ?_
    refine pp_getR dX0_drift_68 ff_X0_32 (Or.inr ⟨_, rfl⟩) hk1.1 (go_RF_ne hk1.2.2.2.2.2.2.2.2.2 hk1.2.2.2.2.2.1) ?_
    refine go_iload_n dX0_drift_71 4 rfl ?_
    refine go_bipush (v := 10) dX0_drift_72 (by decide) ?_
    obtain ⟨hz22, h⟩ := go_chk_e h
    obtain ⟨μ21, hμ21, h⟩ := go_let_e h
    refine pp_ist dX0_drift_74 hk1.2.1 hz22 hμ21 ?_
    refine go_aload_n dX0_drift_75 3 rfl ?_
    refine go_iload_n dX0_drift_76 4 rfl ?_
    refine go_iconst (v := 1) dX0_drift_77 (by decide) ?_
    refine go_bipush (v := 9) dX0_drift_78 (by decide) ?_
    obtain ⟨q23, hq23, h⟩ := go_bind h
    refine pp_callV (as := [.int a2, .int 1, .int 9]) (st := []) (rv := none) (μ1 := q23) (st1 := []) dX0_drift_80 ll_X0_61 hk1.1 (by decide) rfl (ctX10_writeLine hk1 hq23) rfl (Nat.le_of_ble_eq_true rfl) (Nat.le_of_ble_eq_true rfl) (go_Z_up w _) rfl rfl ?_
    refine go_iconst (v := 0) dX0_drift_83 (by decide) ?_
    cases h
    exact go_zret dX0_drift_84 rfl (Or.inl rfl) hK
set_option maxRecDepth 20000 in
set_option maxHeartbeats 4000000 in
theorem jqX0_drift_35 (w : go_Wd) (tx : Nat) (Q : Option Value → go_M → Prop) (μ : PM) (a0 : Option Nat) (a1 : Nat) (a2 : Int32) (hk0 : ∀ q, a0 = some q → go_isT q) (hk1 : go_isW a1) (v4 : Int32)  (s0 : Int32) (hs0 : s0 = 0 ∨ s0 = 1) (out : Int32 × PM) (h : jjX0_drift_35 μ a0 a1 a2 v4 s0 = some out) (hK : Q (some (.int out.1)) (go_mk tx out.2)) : Go w 4 0 0 mtX0_drift 35 [(0, .ref 386), (1, go_on a0), (2, .ref a1), (3, .int a2), (4, .int v4)] [.int s0] (go_mk tx μ) (go_Z w Q) := by
  unfold jjX0_drift_35 at h
  refine go_istore dX0_drift_35 (by decide) rfl ?_
  show Go w 4 0 0 mtX0_drift 37 [(5, .int s0), (0, .ref 386), (1, go_on a0), (2, .ref a1), (3, .int a2), (4, .int v4)] [] (go_mk tx μ) (go_Z w Q)
  refine go_iload dX0_drift_37 0 rfl ?_
  refine go_if_ne 170 dX0_drift_39 (by decide) (fun hc => ?_) (fun hc => ?_)
  · have h := go_ifn hc h
    refine go_pick [1, 2, 3, 4, 5] rfl ?_
    exact jqX0_drift_170 w tx Q μ a0 a1 a2 hk0 hk1 v4    _ h hK
  · have h := go_ifp hc h
    refine go_iload dX0_drift_42 5 rfl ?_
    refine go_aload_n dX0_drift_44 3 rfl ?_
    refine pp_getI dX0_drift_45 ff_X0_25 (by decide) hk1.1 ?_
    refine go_iconst (v := 4) dX0_drift_48 (by decide) ?_
    refine go_icmp_le 56 dX0_drift_49 (by decide) (fun hc => ?_) (fun hc => ?_)
    · have h := go_ifp hc h
      refine go_iconst (v := 1) dX0_drift_56 (by decide) ?_
      refine go_pick [1, 2, 3, 4] rfl ?_
      exact jqX0_drift_57 w tx Q μ a0 a1 a2 hk0 hk1   v4 1  _ h hK
    · have h := go_ifn hc h
      refine go_iconst (v := 2) dX0_drift_52 (by decide) ?_
      refine go_goto 57 dX0_drift_53 (by decide) ?_
      refine go_pick [1, 2, 3, 4] rfl ?_
      exact jqX0_drift_57 w tx Q μ a0 a1 a2 hk0 hk1   v4 2  _ h hK
set_option maxRecDepth 20000 in
set_option maxHeartbeats 4000000 in
theorem jqX0_drift_34 (w : go_Wd) (tx : Nat) (Q : Option Value → go_M → Prop) (μ : PM) (a0 : Option Nat) (a1 : Nat) (a2 : Int32) (hk0 : ∀ q, a0 = some q → go_isT q) (hk1 : go_isW a1) (v4 : Int32)    (out : Int32 × PM) (h : jjX0_drift_34 μ a0 a1 a2 v4  = some out) (hK : Q (some (.int out.1)) (go_mk tx out.2)) : Go w 4 0 0 mtX0_drift 34 [(0, .ref 386), (1, go_on a0), (2, .ref a1), (3, .int a2), (4, .int v4)] [] (go_mk tx μ) (go_Z w Q) := by
  unfold jjX0_drift_34 at h
  refine go_iconst (v := 0) dX0_drift_34 (by decide) ?_
  refine go_pick [0, 1, 2, 3, 4] rfl ?_
  exact jqX0_drift_35 w tx Q μ a0 a1 a2 hk0 hk1 v4  0 (Or.inl rfl) _ h hK
set_option maxRecDepth 20000 in
set_option maxHeartbeats 4000000 in
theorem cmX0_drift (w : go_Wd) (tx : Nat) (Q : Option Value → go_M → Prop) (μ : PM) (a0 : Option Nat) (a1 : Nat) (a2 : Int32) (hk0 : ∀ q, a0 = some q → go_isT q) (hk1 : go_isW a1) (out : Int32 × PM) (h : fX0_drift μ a0 a1 a2 = some out) (hK : Q (some (.int out.1)) (go_mk tx out.2)) : Go w 4 0 0 mtX0_drift 0 [(0, .ref 386), (1, go_on a0), (2, .ref a1), (3, .int a2)] [] (go_mk tx μ) (go_Z w Q) := by
  unfold fX0_drift at h
  refine go_aload_n dX0_drift_0 2 rfl ?_
  refine pp_getR dX0_drift_1 ff_X0_32 (Or.inr ⟨_, rfl⟩) hk1.1 (go_RF_ne hk1.2.2.2.2.2.2.2.2.2 hk1.2.2.2.2.2.1) ?_
  refine go_iload_n dX0_drift_4 3 rfl ?_
  obtain ⟨hz1, h⟩ := go_chk_e h
  refine pp_ild dX0_drift_5 hk1.2.1 hz1 ?_
  obtain ⟨x2, hx2, h⟩ := go_let_e h
  refine go_top hx2 ?_
  refine go_istore dX0_drift_6 (by decide) rfl ?_
  show Go w 4 0 0 mtX0_drift 8 [(4, .int x2), (0, .ref 386), (1, go_on a0), (2, .ref a1), (3, .int a2)] [] (go_mk tx μ) (go_Z w Q)
  refine go_aload_n dX0_drift_8 1 rfl ?_
  refine pp_getR dX0_drift_9 ff_X0_9 (Or.inl ⟨_, rfl⟩) sh_386 rf_386_0 ?_
  refine pp_getI dX0_drift_12 ff_X0_49 (by decide) go_isV_1.1 ?_
  refine go_iload dX0_drift_15 0 rfl ?_
  refine pp_callSN (as := [.int (μ.1 1 12), .int x2]) (st := []) (rv := (some (.int (fX11_hasBit (μ.1 1 12) x2)))) (μ1 := μ) (st1 := [.int (fX11_hasBit (μ.1 1 12) x2)]) dX0_drift_17 ll_X0_54 (ctX11_hasBit  rfl) rfl (Nat.le_of_ble_eq_true rfl) (Nat.le_of_ble_eq_true rfl) (go_Z_up w _) rfl rfl ?_
  refine go_if_eq 34 dX0_drift_20 (by decide) (fun hc => ?_) (fun hc => ?_)
  · have h := go_ifp hc h
    refine go_pick [1, 2, 3, 4, 0] rfl ?_
    exact jqX0_drift_34 w tx Q μ a0 a1 a2 hk0 hk1 x2    _ h hK
  · have h := go_ifn hc h
    refine go_aload_n dX0_drift_23 3 rfl ?_
    obtain ⟨q24, hq24, h⟩ := go_let_e h
    refine pp_callV (as := []) (st := []) (rv := (some (.int q24.1))) (μ1 := q24.2) (st1 := [.int q24.1]) dX0_drift_24 ll_X0_58 hk1.1 (by decide) rfl (ctX10_drawSide hk1 hq24.symm) rfl (Nat.le_of_ble_eq_true rfl) (Nat.le_of_ble_eq_true rfl) (go_Z_up w _) rfl rfl ?_
    refine go_if_ne 34 dX0_drift_27 (by decide) (fun hc => ?_) (fun hc => ?_)
    · have h := go_ifn hc h
      refine go_pick [1, 2, 3, 4, 0] rfl ?_
      exact jqX0_drift_34 w tx Q q24.2 a0 a1 a2 hk0 hk1 x2    _ h hK
    · have h := go_ifp hc h
      refine go_iconst (v := 1) dX0_drift_30 (by decide) ?_
      refine go_goto 35 dX0_drift_31 (by decide) ?_
      refine go_pick [1, 2, 3, 4, 0] rfl ?_
      exact jqX0_drift_35 w tx Q q24.2 a0 a1 a2 hk0 hk1 x2  1 (Or.inr rfl) _ h hK
theorem ctX0_drift {w : go_Wd} {tx : Nat} {μ : PM} {a0 : Option Nat} {a1 : Nat} {a2 : Int32} {r : Int32} {μ1 : PM} (hk0 : ∀ q, a0 = some q → go_isT q) (hk1 : go_isW a1) (h : fX0_drift μ a0 a1 a2 = some (r, μ1)) : Ct w 4 0 0 mtX0_drift [.ref 386, go_on a0, .ref a1, .int a2] (go_mk tx μ) (fun r' M' => r' = some (.int r) ∧ M' = go_mk tx μ1) :=
  go_entry2 rfl (by decide) (by cases a0 <;> exact Nat.le_of_ble_eq_true rfl) (by cases a0 <;> rfl) (cmX0_drift w tx _ μ a0 a1 a2 hk0 hk1 _ h ⟨rfl, rfl⟩)
def lbX0_passHour_13 (a0 : Option Nat) (a1 : Nat)  (v3 : Int32) (v4 : Int32) (μ : PM) : Option ((Int32 × Int32 × PM) ⊕ ((Int32 × PM) ⊕ (Int32 × PM))) :=
  (if (μ.1 a1 5) ≤ v4 then some (.inr (.inl (v3, μ))) else (if 6 ≤ v4 then some (.inr (.inl (v3, μ))) else go_chk v4 6 <| go_let ((μ.1 (a1 + 1) v4.toNatClampNeg)) fun x4 => (if x4 = (-1) then (fX2_askMelts μ a0 a1 v4).bind fun q6 => (if q6.1 ≤ 0 then some (.inl (v3, (v4 + 1), q6.2)) else go_chk v4 6 <| go_let (pm_wi q6.2 (a1 + 1) v4.toNatClampNeg 0) fun μ7 => some (.inl (v3, (v4 + 1), μ7))) else (if 10 ≤ x4 then some (.inl (v3, (v4 + 1), μ)) else (fX0_drift μ a0 a1 v4).bind fun q5 => (if q5.1 = 0 then some (.inl (v3, (v4 + 1), q5.2)) else some (.inl ((v3 + 1), (v4 + 1), q5.2)))))))
def jjX0_passHour_96 (μ : PM) (a0 : Option Nat) (a1 : Nat) (v3 : Int32)  : Option (Int32 × PM) :=
  go_let (pm_wi μ a1 9 ((μ.1 a1 9) + 1)) fun μ11 => some ((v3, μ11))
def fX0_passHour (μ : PM) (a0 : Option Nat) (a1 : Nat) : Option (Int32 × PM) :=
  go_let (fX10_drawTenth μ a1) fun q1 => go_let (pm_wi q1.2 a1 8 q1.1) fun μ2 => ((lp (fun s => lbX0_passHour_13 a0 a1 s.1 s.2.1 s.2.2) go_fuel (0, 0, μ2)).bind fun ρ9 => go_cs ρ9 (fun e10 => jjX0_passHour_96 e10.2 a0 a1 e10.1) (fun y => some y))
def ggX0_passHour_13 (w : go_Wd) (tx : Nat) (Q : Option Value → go_M → Prop) (a0 : Option Nat) (a1 : Nat)  (s : Int32 × Int32 × PM) : Prop := Go w 5 0 0 mtX0_passHour 13 [(0, .ref 386), (1, go_on a0), (2, .ref a1), (3, .int s.1), (4, .int s.2.1)] [] (go_mk tx s.2.2) (go_Z w Q)
def eeX0_passHour_13 (w : go_Wd) (tx : Nat) (Q : Option Value → go_M → Prop) (a0 : Option Nat) (a1 : Nat)  : (Int32 × PM) ⊕ (Int32 × PM) → Prop
  | .inl e => Go w 5 0 0 mtX0_passHour 96 [(2, .ref a1), (3, .int e.1)] [] (go_mk tx e.2) (go_Z w Q)
  | .inr y => Q (some (.int y.1)) (go_mk tx y.2)
set_option maxRecDepth 20000 in
set_option maxHeartbeats 4000000 in
theorem lqX0_passHour_13 (w : go_Wd) (tx : Nat) (Q : Option Value → go_M → Prop) (a0 : Option Nat) (a1 : Nat) (hk0 : ∀ q, a0 = some q → go_isT q) (hk1 : go_isW a1)   (v3 : Int32) (v4 : Int32) (μ : PM) (out : (Int32 × Int32 × PM) ⊕ ((Int32 × PM) ⊕ (Int32 × PM))) (h : lbX0_passHour_13 a0 a1  v3 v4 μ = some out) (hK : go_out (ggX0_passHour_13 w tx Q a0 a1 ) (eeX0_passHour_13 w tx Q a0 a1 ) out) : ggX0_passHour_13 w tx Q a0 a1  (v3, v4, μ) := by
  unfold lbX0_passHour_13 at h
  show Go w 5 0 0 mtX0_passHour 13 [(0, .ref 386), (1, go_on a0), (2, .ref a1), (3, .int v3), (4, .int v4)] [] (go_mk tx μ) (go_Z w Q)
  refine go_iload dX0_passHour_13 4 rfl ?_
  refine go_aload_n dX0_passHour_15 2 rfl ?_
  refine pp_getI dX0_passHour_16 ff_X0_29 (by decide) hk1.1 ?_
  refine go_icmp_ge 96 dX0_passHour_19 (by decide) (fun hc => ?_) (fun hc => ?_)
  · have h := go_ifp hc h
    cases h
    have hK : Go w 5 0 0 mtX0_passHour 96 [(2, .ref a1), (3, .int v3)] [] (go_mk tx μ) (go_Z w Q) := hK
    exact go_pick [2, 3] rfl hK
  · have h := go_ifn hc h
    refine go_iload dX0_passHour_22 4 rfl ?_
    refine go_bipush (v := 6) dX0_passHour_24 (by decide) ?_
    refine go_icmp_ge 96 dX0_passHour_26 (by decide) (fun hc => ?_) (fun hc => ?_)
    · have h := go_ifp hc h
      cases h
      have hK : Go w 5 0 0 mtX0_passHour 96 [(2, .ref a1), (3, .int v3)] [] (go_mk tx μ) (go_Z w Q) := hK
      exact go_pick [2, 3] rfl hK
    · have h := go_ifn hc h
      refine go_aload_n dX0_passHour_29 2 rfl ?_
      refine pp_getR dX0_passHour_30 ff_X0_32 (Or.inr ⟨_, rfl⟩) hk1.1 (go_RF_ne hk1.2.2.2.2.2.2.2.2.2 hk1.2.2.2.2.2.1) ?_
      refine go_iload dX0_passHour_33 4 rfl ?_
      obtain ⟨hz3, h⟩ := go_chk_e h
      refine pp_ild dX0_passHour_35 hk1.2.1 hz3 ?_
      obtain ⟨x4, hx4, h⟩ := go_let_e h
      refine go_top hx4 ?_
      refine go_istore dX0_passHour_36 (by decide) rfl ?_
      show Go w 5 0 0 mtX0_passHour 38 [(5, .int x4), (0, .ref 386), (1, go_on a0), (2, .ref a1), (3, .int v3), (4, .int v4)] [] (go_mk tx μ) (go_Z w Q)
      refine go_iload dX0_passHour_38 0 rfl ?_
      refine go_iconst (v := (-1)) dX0_passHour_40 (by decide) ?_
      refine go_icmp_ne 69 dX0_passHour_41 (by decide) (fun hc => ?_) (fun hc => ?_)
      · have h := go_ifn hc h
        refine go_iload dX0_passHour_69 0 rfl ?_
        refine go_bipush (v := 10) dX0_passHour_71 (by decide) ?_
        refine go_icmp_ge 90 dX0_passHour_73 (by decide) (fun hc => ?_) (fun hc => ?_)
        · have h := go_ifp hc h
          refine go_iinc (v := (v4 + 1)) dX0_passHour_90 5 rfl rfl (by decide) rfl ?_
          show Go w 5 0 0 mtX0_passHour 93 [(4, .int (v4 + 1)), (5, .int x4), (0, .ref 386), (1, go_on a0), (2, .ref a1), (3, .int v3)] [] (go_mk tx μ) (go_Z w Q)
          refine go_goto 13 dX0_passHour_93 (by decide) ?_
          cases h
          have hK : Go w 5 0 0 mtX0_passHour 13 [(0, .ref 386), (1, go_on a0), (2, .ref a1), (3, .int v3), (4, .int (v4 + 1))] [] (go_mk tx μ) (go_Z w Q) := hK
          exact go_pick [2, 3, 4, 5, 0] rfl hK
        · have h := go_ifn hc h
          refine go_aload_n dX0_passHour_76 1 rfl ?_
          refine go_aloadO dX0_passHour_77 2 rfl ?_
          refine go_aload_n dX0_passHour_78 3 rfl ?_
          refine go_iload dX0_passHour_79 5 rfl ?_
          obtain ⟨q5, hq5, h⟩ := go_bind h
          refine pp_callV (as := [go_on a0, .ref a1, .int v4]) (st := []) (rv := (some (.int q5.1))) (μ1 := q5.2) (st1 := [.int q5.1]) dX0_passHour_81 ll_X0_42 sh_386 (by decide) rfl (ctX0_drift hk0 hk1 hq5) rfl (Nat.le_of_ble_eq_true rfl) (Nat.le_of_ble_eq_true rfl) (go_Z_up w _) rfl rfl ?_
          refine go_if_eq 90 dX0_passHour_84 (by decide) (fun hc => ?_) (fun hc => ?_)
          · have h := go_ifp hc h
            refine go_iinc (v := (v4 + 1)) dX0_passHour_90 5 rfl rfl (by decide) rfl ?_
            show Go w 5 0 0 mtX0_passHour 93 [(4, .int (v4 + 1)), (5, .int x4), (0, .ref 386), (1, go_on a0), (2, .ref a1), (3, .int v3)] [] (go_mk tx q5.2) (go_Z w Q)
            refine go_goto 13 dX0_passHour_93 (by decide) ?_
            cases h
            have hK : Go w 5 0 0 mtX0_passHour 13 [(0, .ref 386), (1, go_on a0), (2, .ref a1), (3, .int v3), (4, .int (v4 + 1))] [] (go_mk tx q5.2) (go_Z w Q) := hK
            exact go_pick [2, 3, 4, 5, 0] rfl hK
          · have h := go_ifn hc h
            refine go_iinc (v := (v3 + 1)) dX0_passHour_87 4 rfl rfl (by decide) rfl ?_
            show Go w 5 0 0 mtX0_passHour 90 [(3, .int (v3 + 1)), (5, .int x4), (0, .ref 386), (1, go_on a0), (2, .ref a1), (4, .int v4)] [] (go_mk tx q5.2) (go_Z w Q)
            refine go_iinc (v := (v4 + 1)) dX0_passHour_90 5 rfl rfl (by decide) rfl ?_
            show Go w 5 0 0 mtX0_passHour 93 [(4, .int (v4 + 1)), (3, .int (v3 + 1)), (5, .int x4), (0, .ref 386), (1, go_on a0), (2, .ref a1)] [] (go_mk tx q5.2) (go_Z w Q)
            refine go_goto 13 dX0_passHour_93 (by decide) ?_
            cases h
            have hK : Go w 5 0 0 mtX0_passHour 13 [(0, .ref 386), (1, go_on a0), (2, .ref a1), (3, .int (v3 + 1)), (4, .int (v4 + 1))] [] (go_mk tx q5.2) (go_Z w Q) := hK
            exact go_pick [3, 4, 5, 1, 0] rfl hK
      · have h := go_ifp hc h
        refine go_aload_n dX0_passHour_44 1 rfl ?_
        refine pp_getR dX0_passHour_45 ff_X0_15 (Or.inl ⟨_, rfl⟩) sh_386 rf_386_1 ?_
        refine go_aloadO dX0_passHour_48 2 rfl ?_
        refine go_aload_n dX0_passHour_49 3 rfl ?_
        refine go_iload dX0_passHour_50 5 rfl ?_
        obtain ⟨q6, hq6, h⟩ := go_bind h
        refine pp_callV (as := [go_on a0, .ref a1, .int v4]) (st := []) (rv := (some (.int q6.1))) (μ1 := q6.2) (st1 := [.int q6.1]) dX0_passHour_52 ll_X0_36 sh_383 (by decide) rfl (ctX2_askMelts hk0 hk1 hq6) rfl (Nat.le_of_ble_eq_true rfl) (Nat.le_of_ble_eq_true rfl) (go_Z_up w _) rfl rfl ?_
        refine go_if_le 90 dX0_passHour_55 (by decide) (fun hc => ?_) (fun hc => ?_)
        · have h := go_ifp hc h
          refine go_iinc (v := (v4 + 1)) dX0_passHour_90 5 rfl rfl (by decide) rfl ?_
          show Go w 5 0 0 mtX0_passHour 93 [(4, .int (v4 + 1)), (5, .int x4), (0, .ref 386), (1, go_on a0), (2, .ref a1), (3, .int v3)] [] (go_mk tx q6.2) (go_Z w Q)
          refine go_goto 13 dX0_passHour_93 (by decide) ?_
          cases h
          have hK : Go w 5 0 0 mtX0_passHour 13 [(0, .ref 386), (1, go_on a0), (2, .ref a1), (3, .int v3), (4, .int (v4 + 1))] [] (go_mk tx q6.2) (go_Z w Q) := hK
          exact go_pick [2, 3, 4, 5, 0] rfl hK
        · have h := go_ifn hc h
          refine go_aload_n dX0_passHour_58 3 rfl ?_
          refine pp_getR dX0_passHour_59 ff_X0_32 (Or.inr ⟨_, rfl⟩) hk1.1 (go_RF_ne hk1.2.2.2.2.2.2.2.2.2 hk1.2.2.2.2.2.1) ?_
          refine go_iload dX0_passHour_62 5 rfl ?_
          refine go_iconst (v := 0) dX0_passHour_64 (by decide) ?_
          obtain ⟨hz8, h⟩ := go_chk_e h
          obtain ⟨μ7, hμ7, h⟩ := go_let_e h
          refine pp_ist dX0_passHour_65 hk1.2.1 hz8 hμ7 ?_
          refine go_goto 90 dX0_passHour_66 (by decide) ?_
          refine go_iinc (v := (v4 + 1)) dX0_passHour_90 5 rfl rfl (by decide) rfl ?_
          show Go w 5 0 0 mtX0_passHour 93 [(4, .int (v4 + 1)), (5, .int x4), (0, .ref 386), (1, go_on a0), (2, .ref a1), (3, .int v3)] [] (go_mk tx μ7) (go_Z w Q)
          refine go_goto 13 dX0_passHour_93 (by decide) ?_
          cases h
          have hK : Go w 5 0 0 mtX0_passHour 13 [(0, .ref 386), (1, go_on a0), (2, .ref a1), (3, .int v3), (4, .int (v4 + 1))] [] (go_mk tx μ7) (go_Z w Q) := hK
          exact go_pick [2, 3, 4, 5, 0] rfl hK
set_option maxRecDepth 20000 in
set_option maxHeartbeats 4000000 in
theorem jqX0_passHour_96 (w : go_Wd) (tx : Nat) (Q : Option Value → go_M → Prop) (μ : PM) (a0 : Option Nat) (a1 : Nat) (hk0 : ∀ q, a0 = some q → go_isT q) (hk1 : go_isW a1) (v3 : Int32)    (out : Int32 × PM) (h : jjX0_passHour_96 μ a0 a1 v3  = some out) (hK : Q (some (.int out.1)) (go_mk tx out.2)) : Go w 5 0 0 mtX0_passHour 96 [(2, .ref a1), (3, .int v3)] [] (go_mk tx μ) (go_Z w Q) := by
  unfold jjX0_passHour_96 at h
  refine go_aload_n dX0_passHour_96 0 rfl ?_
  refine go_dup dX0_passHour_97 rfl ?_
  refine pp_getI dX0_passHour_98 ff_X0_46 (by decide) hk1.1 ?_
  refine go_iconst (v := 1) dX0_passHour_101 (by decide) ?_
  refine go_iadd dX0_passHour_102 ?_
  obtain ⟨μ11, hμ11, h⟩ := go_let_e h
  refine pp_putI dX0_passHour_103 ff_X0_46 (Or.inl rfl) hk1.1 hμ11 ?_
  refine go_iload_n dX0_passHour_106 1 rfl ?_
  cases h
  exact go_iret dX0_passHour_107 rfl hK
set_option maxRecDepth 20000 in
set_option maxHeartbeats 4000000 in
theorem cmX0_passHour (w : go_Wd) (tx : Nat) (Q : Option Value → go_M → Prop) (μ : PM) (a0 : Option Nat) (a1 : Nat) (hk0 : ∀ q, a0 = some q → go_isT q) (hk1 : go_isW a1) (out : Int32 × PM) (h : fX0_passHour μ a0 a1 = some out) (hK : Q (some (.int out.1)) (go_mk tx out.2)) : Go w 5 0 0 mtX0_passHour 0 [(0, .ref 386), (1, go_on a0), (2, .ref a1)] [] (go_mk tx μ) (go_Z w Q) := by
  unfold fX0_passHour at h
  refine go_iconst (v := 0) dX0_passHour_0 (by decide) ?_
  refine go_istore_n dX0_passHour_1 (by decide) rfl ?_
  show Go w 5 0 0 mtX0_passHour 2 [(3, .int 0), (0, .ref 386), (1, go_on a0), (2, .ref a1)] [] (go_mk tx μ) (go_Z w Q)
  refine go_aload_n dX0_passHour_2 3 rfl ?_
  refine go_aload_n dX0_passHour_3 3 rfl ?_
  obtain ⟨q1, hq1, h⟩ := go_let_e h
  refine pp_callV (as := []) (st := [.ref a1]) (rv := (some (.int q1.1))) (μ1 := q1.2) (st1 := [.int q1.1, .ref a1]) dX0_passHour_4 ll_X0_19 hk1.1 (by decide) rfl (ctX10_drawTenth hk1 hq1.symm) rfl (Nat.le_of_ble_eq_true rfl) (Nat.le_of_ble_eq_true rfl) (go_Z_up w _) rfl rfl ?_
  obtain ⟨μ2, hμ2, h⟩ := go_let_e h
  refine pp_putI dX0_passHour_7 ff_X0_25 (Or.inl rfl) hk1.1 hμ2 ?_
  refine go_iconst (v := 0) dX0_passHour_10 (by decide) ?_
  refine go_istore dX0_passHour_11 (by decide) rfl ?_
  show Go w 5 0 0 mtX0_passHour 13 [(4, .int 0), (3, .int 0), (0, .ref 386), (1, go_on a0), (2, .ref a1)] [] (go_mk tx μ2) (go_Z w Q)
  obtain ⟨ρ9, hρ9, h⟩ := go_bind h
  refine go_pick [2, 3, 4, 1, 0] rfl ?_
  refine go_lp (G := ggX0_passHour_13 w tx Q a0 a1 ) (E := eeX0_passHour_13 w tx Q a0 a1 ) (fun s out h hK => lqX0_passHour_13 w tx Q a0 a1 hk0 hk1   s.1 s.2.1 s.2.2 out h hK) go_fuel (0, 0, μ2) ρ9 hρ9 ?_
  rcases ρ9 with e10 | y
  · have h := go_csl h
    show Go w 5 0 0 mtX0_passHour 96 [(2, .ref a1), (3, .int e10.1)] [] (go_mk tx e10.2) (go_Z w Q)
    refine go_pick [0, 1] rfl ?_
    exact jqX0_passHour_96 w tx Q e10.2 a0 a1 hk0 hk1 e10.1    _ h hK
  · have h := go_csr h
    cases h
    exact hK
theorem ctX0_passHour {w : go_Wd} {tx : Nat} {μ : PM} {a0 : Option Nat} {a1 : Nat} {r : Int32} {μ1 : PM} (hk0 : ∀ q, a0 = some q → go_isT q) (hk1 : go_isW a1) (h : fX0_passHour μ a0 a1 = some (r, μ1)) : Ct w 5 0 0 mtX0_passHour [.ref 386, go_on a0, .ref a1] (go_mk tx μ) (fun r' M' => r' = some (.int r) ∧ M' = go_mk tx μ1) :=
  go_entry2 rfl (by decide) (by cases a0 <;> exact Nat.le_of_ble_eq_true rfl) (by cases a0 <;> rfl) (cmX0_passHour w tx _ μ a0 a1 hk0 hk1 _ h ⟨rfl, rfl⟩)
def lbX11_countSounds_18 (a0 : Int32)  (v1 : Int32) (v2 : Int32) : Option ((Int32 × Int32) ⊕ (Int32)) :=
  (if v2 ≤ 0 then some (.inr (v1)) else (if 5 ≤ v1 then some (.inr (v1)) else (if (jrem v2 10) = 0 then some (.inr (0)) else some (.inl ((v1 + 1), (v2 / 10))))))
def fX11_countSounds (a0 : Int32) : Option (Int32) :=
  (if a0 < 1 then some (0) else (if a0 ≤ 99999 then ((lp (fun s => lbX11_countSounds_18 a0 s.1 s.2) go_fuel (0, a0)).bind fun ρ1 => some ρ1) else some (0)))
def ggX11_countSounds_18 (w : go_Wd) (tx : Nat) (Q : Option Value → go_M → Prop) (μ : PM) (a0 : Int32)  (s : Int32 × Int32) : Prop := Go w 0 0 0 mtX11_countSounds 18 [(1, .int s.1), (2, .int s.2)] [] (go_mk tx μ) (go_Z w Q)
def eeX11_countSounds_18 (w : go_Wd) (tx : Nat) (Q : Option Value → go_M → Prop) (μ : PM) (a0 : Int32)  (y : Int32) : Prop := Q (some (.int y)) (go_mk tx μ)
set_option maxRecDepth 20000 in
set_option maxHeartbeats 4000000 in
theorem lqX11_countSounds_18 (w : go_Wd) (tx : Nat) (Q : Option Value → go_M → Prop) (μ : PM) (a0 : Int32)   (v1 : Int32) (v2 : Int32) (out : (Int32 × Int32) ⊕ (Int32)) (h : lbX11_countSounds_18 a0  v1 v2 = some out) (hK : go_out (ggX11_countSounds_18 w tx Q μ a0 ) (eeX11_countSounds_18 w tx Q μ a0 ) out) : ggX11_countSounds_18 w tx Q μ a0  (v1, v2) := by
  unfold lbX11_countSounds_18 at h
  show Go w 0 0 0 mtX11_countSounds 18 [(1, .int v1), (2, .int v2)] [] (go_mk tx μ) (go_Z w Q)
  refine go_iload_n dX11_countSounds_18 1 rfl ?_
  refine go_if_le 47 dX11_countSounds_19 (by decide) (fun hc => ?_) (fun hc => ?_)
  · have h := go_ifp hc h
    refine go_iload_n dX11_countSounds_47 0 rfl ?_
    cases h
    exact go_iret dX11_countSounds_48 rfl hK
  · have h := go_ifn hc h
    refine go_iload_n dX11_countSounds_22 0 rfl ?_
    refine go_iconst (v := 5) dX11_countSounds_23 (by decide) ?_
    refine go_icmp_ge 47 dX11_countSounds_24 (by decide) (fun hc => ?_) (fun hc => ?_)
    · have h := go_ifp hc h
      refine go_iload_n dX11_countSounds_47 0 rfl ?_
      cases h
      exact go_iret dX11_countSounds_48 rfl hK
    · have h := go_ifn hc h
      refine go_iload_n dX11_countSounds_27 1 rfl ?_
      refine go_bipush (v := 10) dX11_countSounds_28 (by decide) ?_
      refine go_iremJ dX11_countSounds_30 (by decide) ?_
      refine go_if_ne 36 dX11_countSounds_31 (by decide) (fun hc => ?_) (fun hc => ?_)
      · have h := go_ifn hc h
        refine go_iinc (v := (v1 + 1)) dX11_countSounds_36 0 rfl rfl (by decide) rfl ?_
        show Go w 0 0 0 mtX11_countSounds 39 [(1, .int (v1 + 1)), (2, .int v2)] [] (go_mk tx μ) (go_Z w Q)
        refine go_iload_n dX11_countSounds_39 1 rfl ?_
        refine go_bipush (v := 10) dX11_countSounds_40 (by decide) ?_
        refine go_idiv dX11_countSounds_42 (by decide) ?_
        refine go_istore_n dX11_countSounds_43 (by decide) rfl ?_
        show Go w 0 0 0 mtX11_countSounds 44 [(2, .int (v2 / 10)), (1, .int (v1 + 1))] [] (go_mk tx μ) (go_Z w Q)
        refine go_goto 18 dX11_countSounds_44 (by decide) ?_
        cases h
        have hK : Go w 0 0 0 mtX11_countSounds 18 [(1, .int (v1 + 1)), (2, .int (v2 / 10))] [] (go_mk tx μ) (go_Z w Q) := hK
        exact go_pick [1, 0] rfl hK
      · have h := go_ifp hc h
        refine go_iconst (v := 0) dX11_countSounds_34 (by decide) ?_
        cases h
        exact go_iret dX11_countSounds_35 rfl hK
set_option maxRecDepth 20000 in
set_option maxHeartbeats 4000000 in
theorem cmX11_countSounds (w : go_Wd) (tx : Nat) (Q : Option Value → go_M → Prop) (μ : PM) (a0 : Int32) (out : Int32) (h : fX11_countSounds a0 = some out) (hK : Q (some (.int out)) (go_mk tx μ)) : Go w 0 0 0 mtX11_countSounds 0 [(0, .int a0)] [] (go_mk tx μ) (go_Z w Q) := by
  unfold fX11_countSounds at h
  refine go_iload_n dX11_countSounds_0 0 rfl ?_
  refine go_iconst (v := 1) dX11_countSounds_1 (by decide) ?_
  refine go_icmp_lt 12 dX11_countSounds_2 (by decide) (fun hc => ?_) (fun hc => ?_)
  · have h := go_ifp hc h
    refine go_iconst (v := 0) dX11_countSounds_12 (by decide) ?_
    cases h
    exact go_iret dX11_countSounds_13 rfl hK
  · have h := go_ifn hc h
    refine go_iload_n dX11_countSounds_5 0 rfl ?_
    refine go_ldcw dX11_countSounds_6 kk_X11_413 ?_
    refine go_icmp_le 14 dX11_countSounds_9 (by decide) (fun hc => ?_) (fun hc => ?_)
    · have h := go_ifp hc h
      refine go_iconst (v := 0) dX11_countSounds_14 (by decide) ?_
      refine go_istore_n dX11_countSounds_15 (by decide) rfl ?_
      show Go w 0 0 0 mtX11_countSounds 16 [(1, .int 0), (0, .int a0)] [] (go_mk tx μ) (go_Z w Q)
      refine go_iload_n dX11_countSounds_16 1 rfl ?_
      refine go_istore_n dX11_countSounds_17 (by decide) rfl ?_
      show Go w 0 0 0 mtX11_countSounds 18 [(2, .int a0), (1, .int 0), (0, .int a0)] [] (go_mk tx μ) (go_Z w Q)
      obtain ⟨ρ1, hρ1, h⟩ := go_bind h
      refine go_pick [1, 0] rfl ?_
      refine go_lp (G := ggX11_countSounds_18 w tx Q μ a0 ) (E := eeX11_countSounds_18 w tx Q μ a0 ) (fun s out h hK => lqX11_countSounds_18 w tx Q μ a0   s.1 s.2 out h hK) go_fuel (0, a0) ρ1 hρ1 ?_
      cases h
      exact hK
    · have h := go_ifn hc h
      refine go_iconst (v := 0) dX11_countSounds_12 (by decide) ?_
      cases h
      exact go_iret dX11_countSounds_13 rfl hK
theorem ctX11_countSounds {w : go_Wd} {tx : Nat} {μ : PM} {a0 : Int32} {r : Int32}  (h : fX11_countSounds a0 = some r) : Ct w 0 0 0 mtX11_countSounds [.int a0] (go_mk tx μ) (fun r' M' => r' = some (.int r) ∧ M' = go_mk tx μ) :=
  go_entry rfl (by decide) (Nat.le_of_ble_eq_true rfl) (cmX11_countSounds w tx _ μ a0 _ h ⟨rfl, rfl⟩)
def lbX1_jointOf_9 (μ : PM) (a0 : Int32) (a1 : Int32)  (v3 : Int64) (v5 : Int32) : Option ((Int64 × Int32) ⊕ ((Int64) ⊕ (Int32))) :=
  (if v5 ≤ 0 then some (.inr (.inl v3)) else some (.inl ((v3 * 10), (v5 + (-1)))))
def lbX1_jointOf_34 (μ : PM) (a0 : Int32) (a1 : Int32) (v3 : Int64) (v5 : Int32) : Option ((Int32) ⊕ (Int32)) :=
  (if (μ.1 12 5) ≤ v5 then some (.inr ((-1))) else (if 6 ≤ v5 then some (.inr ((-1))) else go_chk v5 6 <| (if (lg_cmp (((μ.1 2 v5.toNatClampNeg) : Int32).toInt64) v3) = 0 then some (.inr (v5)) else some (.inl (v5 + 1)))))
def fX1_jointOf (μ : PM) (a0 : Int32) (a1 : Int32) : Option (Int32) :=
  (fX11_countSounds a1).bind fun q1 => ((lp (fun s => lbX1_jointOf_9 μ a0 a1 s.1 s.2) go_fuel (a0.toInt64, q1)).bind fun ρ2 => go_cs ρ2 (fun e3 => go_let ((e3 + a1.toInt64)) fun x4 => ((lp (fun s => lbX1_jointOf_34 μ a0 a1 x4 s) go_fuel 0).bind fun ρ6 => some ρ6)) (fun y => some y))
def ggX1_jointOf_9 (w : go_Wd) (tx : Nat) (Q : Option Value → go_M → Prop) (μ : PM) (a0 : Int32) (a1 : Int32)  (s : Int64 × Int32) : Prop := Go w 1 0 0 mtX1_jointOf 9 [(0, .ref 394), (2, .int a1), (3, .long s.1), (5, .int s.2)] [] (go_mk tx μ) (go_Z w Q)
def ggX1_jointOf_34 (w : go_Wd) (tx : Nat) (Q : Option Value → go_M → Prop) (μ : PM) (a0 : Int32) (a1 : Int32) (v3 : Int64) (s : Int32) : Prop := Go w 1 0 0 mtX1_jointOf 34 [(0, .ref 394), (3, .long v3), (5, .int s)] [] (go_mk tx μ) (go_Z w Q)
def eeX1_jointOf_9 (w : go_Wd) (tx : Nat) (Q : Option Value → go_M → Prop) (μ : PM) (a0 : Int32) (a1 : Int32)  : (Int64) ⊕ (Int32) → Prop
  | .inl e => Go w 1 0 0 mtX1_jointOf 26 [(0, .ref 394), (2, .int a1), (3, .long e)] [] (go_mk tx μ) (go_Z w Q)
  | .inr y => Q (some (.int y)) (go_mk tx μ)
def eeX1_jointOf_34 (w : go_Wd) (tx : Nat) (Q : Option Value → go_M → Prop) (μ : PM) (a0 : Int32) (a1 : Int32) (v3 : Int64) (y : Int32) : Prop := Q (some (.int y)) (go_mk tx μ)
set_option maxRecDepth 20000 in
set_option maxHeartbeats 4000000 in
theorem lqX1_jointOf_9 (w : go_Wd) (tx : Nat) (Q : Option Value → go_M → Prop) (μ : PM) (a0 : Int32) (a1 : Int32)   (v3 : Int64) (v5 : Int32) (out : (Int64 × Int32) ⊕ ((Int64) ⊕ (Int32))) (h : lbX1_jointOf_9 μ a0 a1  v3 v5 = some out) (hK : go_out (ggX1_jointOf_9 w tx Q μ a0 a1 ) (eeX1_jointOf_9 w tx Q μ a0 a1 ) out) : ggX1_jointOf_9 w tx Q μ a0 a1  (v3, v5) := by
  unfold lbX1_jointOf_9 at h
  show Go w 1 0 0 mtX1_jointOf 9 [(0, .ref 394), (2, .int a1), (3, .long v3), (5, .int v5)] [] (go_mk tx μ) (go_Z w Q)
  refine go_iload dX1_jointOf_9 3 rfl ?_
  refine go_if_le 26 dX1_jointOf_11 (by decide) (fun hc => ?_) (fun hc => ?_)
  · have h := go_ifp hc h
    cases h
    have hK : Go w 1 0 0 mtX1_jointOf 26 [(0, .ref 394), (2, .int a1), (3, .long v3)] [] (go_mk tx μ) (go_Z w Q) := hK
    exact go_pick [0, 1, 2] rfl hK
  · have h := go_ifn hc h
    refine go_lload_n dX1_jointOf_14 2 rfl ?_
    refine go_ldc2 dX1_jointOf_15 kl_X1_57 ?_
    refine go_lmul dX1_jointOf_18 ?_
    refine go_lstore_n dX1_jointOf_19 (by decide) rfl ?_
    show Go w 1 0 0 mtX1_jointOf 20 [(3, .long (v3 * 10)), (0, .ref 394), (2, .int a1), (5, .int v5)] [] (go_mk tx μ) (go_Z w Q)
    refine go_iinc (v := (v5 + (-1))) dX1_jointOf_20 3 rfl rfl (by decide) rfl ?_
    show Go w 1 0 0 mtX1_jointOf 23 [(5, .int (v5 + (-1))), (3, .long (v3 * 10)), (0, .ref 394), (2, .int a1)] [] (go_mk tx μ) (go_Z w Q)
    refine go_goto 9 dX1_jointOf_23 (by decide) ?_
    cases h
    have hK : Go w 1 0 0 mtX1_jointOf 9 [(0, .ref 394), (2, .int a1), (3, .long (v3 * 10)), (5, .int (v5 + (-1)))] [] (go_mk tx μ) (go_Z w Q) := hK
    exact go_pick [2, 3, 1, 0] rfl hK
set_option maxRecDepth 20000 in
set_option maxHeartbeats 4000000 in
theorem lqX1_jointOf_34 (w : go_Wd) (tx : Nat) (Q : Option Value → go_M → Prop) (μ : PM) (a0 : Int32) (a1 : Int32) (v3 : Int64)  (v5 : Int32) (out : (Int32) ⊕ (Int32)) (h : lbX1_jointOf_34 μ a0 a1 v3 v5 = some out) (hK : go_out (ggX1_jointOf_34 w tx Q μ a0 a1 v3) (eeX1_jointOf_34 w tx Q μ a0 a1 v3) out) : ggX1_jointOf_34 w tx Q μ a0 a1 v3 v5 := by
  unfold lbX1_jointOf_34 at h
  show Go w 1 0 0 mtX1_jointOf 34 [(0, .ref 394), (3, .long v3), (5, .int v5)] [] (go_mk tx μ) (go_Z w Q)
  refine go_iload dX1_jointOf_34 2 rfl ?_
  refine go_aload_n dX1_jointOf_36 0 rfl ?_
  refine pp_getR dX1_jointOf_37 ff_X1_21 (Or.inl ⟨_, rfl⟩) sh_394 rf_394_0 ?_
  refine pp_getR dX1_jointOf_40 ff_X1_59 (Or.inl ⟨_, rfl⟩) go_isV_1.1 rf_1_10 ?_
  refine pp_getI dX1_jointOf_43 ff_X1_63 (by decide) go_isW_12.1 ?_
  refine go_icmp_ge 81 dX1_jointOf_46 (by decide) (fun hc => ?_) (fun hc => ?_)
  · have h := go_ifp hc h
    refine go_iconst (v := (-1)) dX1_jointOf_81 (by decide) ?_
    cases h
    exact go_iret dX1_jointOf_82 rfl hK
  · have h := go_ifn hc h
    refine go_iload dX1_jointOf_49 2 rfl ?_
    refine go_bipush (v := 6) dX1_jointOf_51 (by decide) ?_
    refine go_icmp_ge 81 dX1_jointOf_53 (by decide) (fun hc => ?_) (fun hc => ?_)
    · have h := go_ifp hc h
      refine go_iconst (v := (-1)) dX1_jointOf_81 (by decide) ?_
      cases h
      exact go_iret dX1_jointOf_82 rfl hK
    · have h := go_ifn hc h
      refine go_aload_n dX1_jointOf_56 0 rfl ?_
      refine pp_getR dX1_jointOf_57 ff_X1_21 (Or.inl ⟨_, rfl⟩) sh_394 rf_394_0 ?_
      refine pp_getR dX1_jointOf_60 ff_X1_68 (Or.inr ⟨_, rfl⟩) go_isV_1.1 rf_1_0 ?_
      refine go_iload dX1_jointOf_63 2 rfl ?_
      obtain ⟨hz5, h⟩ := go_chk_e h
      refine pp_ild dX1_jointOf_65 sh_2 hz5 ?_
      refine go_i2l dX1_jointOf_66 ?_
      refine go_lload_n dX1_jointOf_67 1 rfl ?_
      refine go_lcmp dX1_jointOf_68 ?_
      refine go_if_ne 75 dX1_jointOf_69 (by decide) (fun hc => ?_) (fun hc => ?_)
      · have h := go_ifn hc h
        refine go_iinc (v := (v5 + 1)) dX1_jointOf_75 2 rfl rfl (by decide) rfl ?_
        show Go w 1 0 0 mtX1_jointOf 78 [(5, .int (v5 + 1)), (0, .ref 394), (3, .long v3)] [] (go_mk tx μ) (go_Z w Q)
        refine go_goto 34 dX1_jointOf_78 (by decide) ?_
        cases h
        have hK : Go w 1 0 0 mtX1_jointOf 34 [(0, .ref 394), (3, .long v3), (5, .int (v5 + 1))] [] (go_mk tx μ) (go_Z w Q) := hK
        exact go_pick [1, 2, 0] rfl hK
      · have h := go_ifp hc h
        refine go_iload dX1_jointOf_72 2 rfl ?_
        cases h
        exact go_iret dX1_jointOf_74 rfl hK
set_option maxRecDepth 20000 in
set_option maxHeartbeats 4000000 in
theorem cmX1_jointOf (w : go_Wd) (tx : Nat) (Q : Option Value → go_M → Prop) (μ : PM) (a0 : Int32) (a1 : Int32) (out : Int32) (h : fX1_jointOf μ a0 a1 = some out) (hK : Q (some (.int out)) (go_mk tx μ)) : Go w 1 0 0 mtX1_jointOf 0 [(0, .ref 394), (1, .int a0), (2, .int a1)] [] (go_mk tx μ) (go_Z w Q) := by
  unfold fX1_jointOf at h
  refine go_iload_n dX1_jointOf_0 1 rfl ?_
  refine go_i2l dX1_jointOf_1 ?_
  refine go_lstore_n dX1_jointOf_2 (by decide) rfl ?_
  show Go w 1 0 0 mtX1_jointOf 3 [(3, .long a0.toInt64), (0, .ref 394), (1, .int a0), (2, .int a1)] [] (go_mk tx μ) (go_Z w Q)
  refine go_iload_n dX1_jointOf_3 3 rfl ?_
  obtain ⟨q1, hq1, h⟩ := go_bind h
  refine pp_callSN (as := [.int a1]) (st := []) (rv := (some (.int q1))) (μ1 := μ) (st1 := [.int q1]) dX1_jointOf_4 ll_X1_53 (ctX11_countSounds  hq1) rfl (Nat.le_of_ble_eq_true rfl) (Nat.le_of_ble_eq_true rfl) (go_Z_up w _) rfl rfl ?_
  refine go_istore dX1_jointOf_7 (by decide) rfl ?_
  show Go w 1 0 0 mtX1_jointOf 9 [(5, .int q1), (3, .long a0.toInt64), (0, .ref 394), (1, .int a0), (2, .int a1)] [] (go_mk tx μ) (go_Z w Q)
  obtain ⟨ρ2, hρ2, h⟩ := go_bind h
  refine go_pick [2, 4, 1, 0] rfl ?_
  refine go_lp (G := ggX1_jointOf_9 w tx Q μ a0 a1 ) (E := eeX1_jointOf_9 w tx Q μ a0 a1 ) (fun s out h hK => lqX1_jointOf_9 w tx Q μ a0 a1   s.1 s.2 out h hK) go_fuel (a0.toInt64, q1) ρ2 hρ2 ?_
  rcases ρ2 with e3 | y
  · have h := go_csl h
    show Go w 1 0 0 mtX1_jointOf 26 [(0, .ref 394), (2, .int a1), (3, .long e3)] [] (go_mk tx μ) (go_Z w Q)
    refine go_lload_n dX1_jointOf_26 2 rfl ?_
    refine go_iload_n dX1_jointOf_27 1 rfl ?_
    refine go_i2l dX1_jointOf_28 ?_
    refine go_ladd dX1_jointOf_29 ?_
    obtain ⟨x4, hx4, h⟩ := go_let_e h
    refine go_topl hx4 ?_
    refine go_lstore_n dX1_jointOf_30 (by decide) rfl ?_
    show Go w 1 0 0 mtX1_jointOf 31 [(3, .long x4), (0, .ref 394), (2, .int a1)] [] (go_mk tx μ) (go_Z w Q)
    refine go_iconst (v := 0) dX1_jointOf_31 (by decide) ?_
    refine go_istore dX1_jointOf_32 (by decide) rfl ?_
    show Go w 1 0 0 mtX1_jointOf 34 [(5, .int 0), (3, .long x4), (0, .ref 394), (2, .int a1)] [] (go_mk tx μ) (go_Z w Q)
    obtain ⟨ρ6, hρ6, h⟩ := go_bind h
    refine go_pick [2, 1, 0] rfl ?_
    refine go_lp (G := ggX1_jointOf_34 w tx Q μ a0 a1 x4) (E := eeX1_jointOf_34 w tx Q μ a0 a1 x4) (fun s out h hK => lqX1_jointOf_34 w tx Q μ a0 a1 x4  s out h hK) go_fuel 0 ρ6 hρ6 ?_
    cases h
    exact hK
  · have h := go_csr h
    cases h
    exact hK
theorem ctX1_jointOf {w : go_Wd} {tx : Nat} {μ : PM} {a0 : Int32} {a1 : Int32} {r : Int32}  (h : fX1_jointOf μ a0 a1 = some r) : Ct w 1 0 0 mtX1_jointOf [.ref 394, .int a0, .int a1] (go_mk tx μ) (fun r' M' => r' = some (.int r) ∧ M' = go_mk tx μ) :=
  go_entry rfl (by decide) (Nat.le_of_ble_eq_true rfl) (cmX1_jointOf w tx _ μ a0 a1 _ h ⟨rfl, rfl⟩)
def jjX1_findJoints_55_9 (μ : PM) (a0 : Int32) (v2 : Int32) (v3 : Int32) (s1 : Int32) (s2 : Int32) : Option ((Int32 × PM) ⊕ ((PM) ⊕ ((Int32 × PM) ⊕ (PM)))) :=
  go_chk s1 64 <| go_let (pm_wi μ 395 s1.toNatClampNeg s2) fun μ4 => some (.inl ((v3 + 1), μ4))
def lbX1_findJoints_9 (a0 : Int32) (v2 : Int32) (v3 : Int32) (μ : PM) : Option ((Int32 × PM) ⊕ ((PM) ⊕ ((Int32 × PM) ⊕ (PM)))) :=
  (if a0 ≤ v3 then some (.inr (.inl μ)) else (if v2 = v3 then jjX1_findJoints_55_9 μ a0 v2 v3 (((v2 * 8) + v3)) ((-1)) else go_chk v2 8 <| go_chk v3 8 <| (fX1_jointOf μ (μ.1 9 v2.toNatClampNeg) (μ.1 9 v3.toNatClampNeg)).bind fun q3 => jjX1_findJoints_55_9 μ a0 v2 v3 (((v2 * 8) + v3)) q3))
def lbX1_findJoints_2 (a0 : Int32)  (v2 : Int32) (μ : PM) : Option ((Int32 × PM) ⊕ (PM)) :=
  (if a0 ≤ v2 then some (.inr (μ)) else ((lp (fun s => lbX1_findJoints_9 a0 v2 s.1 s.2) go_fuel (0, μ)).bind fun ρ6 => go_cs ρ6 (fun e7 => some (.inl ((v2 + 1), e7))) (fun y => some y)))
def fX1_findJoints (μ : PM) (a0 : Int32) : Option (PM) :=
  ((lp (fun s => lbX1_findJoints_2 a0 s.1 s.2) go_fuel (0, μ)).bind fun ρ8 => some ρ8)
def ggX1_findJoints_9 (w : go_Wd) (tx : Nat) (Q : Option Value → go_M → Prop) (a0 : Int32) (v2 : Int32) (s : Int32 × PM) : Prop := Go w 2 0 0 mtX1_findJoints 9 [(0, .ref 394), (1, .int a0), (2, .int v2), (3, .int s.1)] [] (go_mk tx s.2) (go_Z w Q)
def ggX1_findJoints_2 (w : go_Wd) (tx : Nat) (Q : Option Value → go_M → Prop) (a0 : Int32)  (s : Int32 × PM) : Prop := Go w 2 0 0 mtX1_findJoints 2 [(0, .ref 394), (1, .int a0), (2, .int s.1)] [] (go_mk tx s.2) (go_Z w Q)
def eeX1_findJoints_2 (w : go_Wd) (tx : Nat) (Q : Option Value → go_M → Prop) (a0 : Int32)  (y : PM) : Prop := Q none (go_mk tx y)
def eeX1_findJoints_9 (w : go_Wd) (tx : Nat) (Q : Option Value → go_M → Prop) (a0 : Int32) (v2 : Int32) : (PM) ⊕ ((Int32 × PM) ⊕ (PM)) → Prop
  | .inl e => Go w 2 0 0 mtX1_findJoints 62 [(0, .ref 394), (1, .int a0), (2, .int v2)] [] (go_mk tx e) (go_Z w Q)
  | .inr y => go_out (ggX1_findJoints_2 w tx Q a0 ) (eeX1_findJoints_2 w tx Q a0 ) y
set_option maxRecDepth 20000 in
set_option maxHeartbeats 4000000 in
theorem jqX1_findJoints_55_9 (w : go_Wd) (tx : Nat) (Q : Option Value → go_M → Prop) (μ : PM) (a0 : Int32) (v2 : Int32) (v3 : Int32)  (s1 : Int32) (s2 : Int32)  (out : (Int32 × PM) ⊕ ((PM) ⊕ ((Int32 × PM) ⊕ (PM)))) (h : jjX1_findJoints_55_9 μ a0 v2 v3 s1 s2 = some out) (hK : go_out (ggX1_findJoints_9 w tx Q a0 v2) (eeX1_findJoints_9 w tx Q a0 v2) out) : Go w 2 0 0 mtX1_findJoints 55 [(0, .ref 394), (1, .int a0), (2, .int v2), (3, .int v3)] [.int s2, .int s1, .ref 395] (go_mk tx μ) (go_Z w Q) := by
  unfold jjX1_findJoints_55_9 at h
  obtain ⟨hz5, h⟩ := go_chk_e h
  obtain ⟨μ4, hμ4, h⟩ := go_let_e h
  refine pp_ist dX1_findJoints_55 sh_395 hz5 hμ4 ?_
  refine go_iinc (v := (v3 + 1)) dX1_findJoints_56 3 rfl rfl (by decide) rfl ?_
  show Go w 2 0 0 mtX1_findJoints 59 [(3, .int (v3 + 1)), (0, .ref 394), (1, .int a0), (2, .int v2)] [] (go_mk tx μ4) (go_Z w Q)
  refine go_goto 9 dX1_findJoints_59 (by decide) ?_
  cases h
  have hK : Go w 2 0 0 mtX1_findJoints 9 [(0, .ref 394), (1, .int a0), (2, .int v2), (3, .int (v3 + 1))] [] (go_mk tx μ4) (go_Z w Q) := hK
  exact go_pick [1, 2, 3, 0] rfl hK
set_option maxRecDepth 20000 in
set_option maxHeartbeats 4000000 in
theorem lqX1_findJoints_9 (w : go_Wd) (tx : Nat) (Q : Option Value → go_M → Prop) (a0 : Int32) (v2 : Int32)  (v3 : Int32) (μ : PM) (out : (Int32 × PM) ⊕ ((PM) ⊕ ((Int32 × PM) ⊕ (PM)))) (h : lbX1_findJoints_9 a0 v2 v3 μ = some out) (hK : go_out (ggX1_findJoints_9 w tx Q a0 v2) (eeX1_findJoints_9 w tx Q a0 v2) out) : ggX1_findJoints_9 w tx Q a0 v2 (v3, μ) := by
  unfold lbX1_findJoints_9 at h
  show Go w 2 0 0 mtX1_findJoints 9 [(0, .ref 394), (1, .int a0), (2, .int v2), (3, .int v3)] [] (go_mk tx μ) (go_Z w Q)
  refine go_iload_n dX1_findJoints_9 3 rfl ?_
  refine go_iload_n dX1_findJoints_10 1 rfl ?_
  refine go_icmp_ge 62 dX1_findJoints_11 (by decide) (fun hc => ?_) (fun hc => ?_)
  · have h := go_ifp hc h
    cases h
    have hK : Go w 2 0 0 mtX1_findJoints 62 [(0, .ref 394), (1, .int a0), (2, .int v2)] [] (go_mk tx μ) (go_Z w Q) := hK
    exact go_pick [0, 1, 2] rfl hK
  · have h := go_ifn hc h
    refine go_aload_n dX1_findJoints_14 0 rfl ?_
    refine pp_getR dX1_findJoints_15 ff_X1_9 (Or.inr ⟨_, rfl⟩) sh_394 rf_394_1 ?_
    refine go_iload_n dX1_findJoints_18 2 rfl ?_
    refine go_bipush (v := 8) dX1_findJoints_19 (by decide) ?_
    refine go_imul dX1_findJoints_21 ?_
    refine go_iload_n dX1_findJoints_22 3 rfl ?_
    refine go_iadd dX1_findJoints_23 ?_
    refine go_iload_n dX1_findJoints_24 2 rfl ?_
    refine go_iload_n dX1_findJoints_25 3 rfl ?_
    refine go_icmp_ne 33 dX1_findJoints_26 (by decide) (fun hc => ?_) (fun hc => ?_)
    · have h := go_ifn hc h
      refine go_aload_n dX1_findJoints_33 0 rfl ?_
      refine go_aload_n dX1_findJoints_34 0 rfl ?_
      refine pp_getR dX1_findJoints_35 ff_X1_21 (Or.inl ⟨_, rfl⟩) sh_394 rf_394_0 ?_
      refine pp_getR dX1_findJoints_38 ff_X1_47 (Or.inr ⟨_, rfl⟩) go_isV_1.1 rf_1_7 ?_
      refine go_iload_n dX1_findJoints_41 2 rfl ?_
      obtain ⟨hz1, h⟩ := go_chk_e h
      refine pp_ild dX1_findJoints_42 sh_9 hz1 ?_
      refine go_aload_n dX1_findJoints_43 0 rfl ?_
      refine pp_getR dX1_findJoints_44 ff_X1_21 (Or.inl ⟨_, rfl⟩) sh_394 rf_394_0 ?_
      refine pp_getR dX1_findJoints_47 ff_X1_47 (Or.inr ⟨_, rfl⟩) go_isV_1.1 rf_1_7 ?_
      refine go_iload_n dX1_findJoints_50 3 rfl ?_
      obtain ⟨hz2, h⟩ := go_chk_e h
      refine pp_ild dX1_findJoints_51 sh_9 hz2 ?_
      obtain ⟨q3, hq3, h⟩ := go_bind h
      refine pp_callV (as := [.int (μ.1 9 v2.toNatClampNeg), .int (μ.1 9 v3.toNatClampNeg)]) (st := [.int ((v2 * 8) + v3), .ref 395]) (rv := (some (.int q3))) (μ1 := μ) (st1 := [.int q3, .int ((v2 * 8) + v3), .ref 395]) dX1_findJoints_52 ll_X1_50 sh_394 (by decide) rfl (ctX1_jointOf  hq3) rfl (Nat.le_of_ble_eq_true rfl) (Nat.le_of_ble_eq_true rfl) (go_Z_up w _) rfl rfl ?_
      refine go_pick [0, 1, 2, 3] rfl ?_
      exact jqX1_findJoints_55_9 w tx Q μ a0 v2 v3  (((v2 * 8) + v3)) q3  _ h hK
    · have h := go_ifp hc h
      refine go_iconst (v := (-1)) dX1_findJoints_29 (by decide) ?_
      refine go_goto 55 dX1_findJoints_30 (by decide) ?_
      refine go_pick [0, 1, 2, 3] rfl ?_
      exact jqX1_findJoints_55_9 w tx Q μ a0 v2 v3  (((v2 * 8) + v3)) ((-1))  _ h hK
set_option maxRecDepth 20000 in
set_option maxHeartbeats 4000000 in
theorem lqX1_findJoints_2 (w : go_Wd) (tx : Nat) (Q : Option Value → go_M → Prop) (a0 : Int32)   (v2 : Int32) (μ : PM) (out : (Int32 × PM) ⊕ (PM)) (h : lbX1_findJoints_2 a0  v2 μ = some out) (hK : go_out (ggX1_findJoints_2 w tx Q a0 ) (eeX1_findJoints_2 w tx Q a0 ) out) : ggX1_findJoints_2 w tx Q a0  (v2, μ) := by
  unfold lbX1_findJoints_2 at h
  show Go w 2 0 0 mtX1_findJoints 2 [(0, .ref 394), (1, .int a0), (2, .int v2)] [] (go_mk tx μ) (go_Z w Q)
  refine go_iload_n dX1_findJoints_2 2 rfl ?_
  refine go_iload_n dX1_findJoints_3 1 rfl ?_
  refine go_icmp_ge 68 dX1_findJoints_4 (by decide) (fun hc => ?_) (fun hc => ?_)
  · have h := go_ifp hc h
    cases h
    exact go_vret dX1_findJoints_68 rfl hK
  · have h := go_ifn hc h
    refine go_iconst (v := 0) dX1_findJoints_7 (by decide) ?_
    refine go_istore_n dX1_findJoints_8 (by decide) rfl ?_
    show Go w 2 0 0 mtX1_findJoints 9 [(3, .int 0), (0, .ref 394), (1, .int a0), (2, .int v2)] [] (go_mk tx μ) (go_Z w Q)
    obtain ⟨ρ6, hρ6, h⟩ := go_bind h
    refine go_pick [1, 2, 3, 0] rfl ?_
    refine go_lp (G := ggX1_findJoints_9 w tx Q a0 v2) (E := eeX1_findJoints_9 w tx Q a0 v2) (fun s out h hK => lqX1_findJoints_9 w tx Q a0 v2  s.1 s.2 out h hK) go_fuel (0, μ) ρ6 hρ6 ?_
    rcases ρ6 with e7 | y
    · have h := go_csl h
      show Go w 2 0 0 mtX1_findJoints 62 [(0, .ref 394), (1, .int a0), (2, .int v2)] [] (go_mk tx e7) (go_Z w Q)
      refine go_iinc (v := (v2 + 1)) dX1_findJoints_62 2 rfl rfl (by decide) rfl ?_
      show Go w 2 0 0 mtX1_findJoints 65 [(2, .int (v2 + 1)), (0, .ref 394), (1, .int a0)] [] (go_mk tx e7) (go_Z w Q)
      refine go_goto 2 dX1_findJoints_65 (by decide) ?_
      cases h
      have hK : Go w 2 0 0 mtX1_findJoints 2 [(0, .ref 394), (1, .int a0), (2, .int (v2 + 1))] [] (go_mk tx e7) (go_Z w Q) := hK
      exact go_pick [1, 2, 0] rfl hK
    · have h := go_csr h
      cases h
      exact hK
set_option maxRecDepth 20000 in
set_option maxHeartbeats 4000000 in
theorem cmX1_findJoints (w : go_Wd) (tx : Nat) (Q : Option Value → go_M → Prop) (μ : PM) (a0 : Int32) (out : PM) (h : fX1_findJoints μ a0 = some out) (hK : Q none (go_mk tx out)) : Go w 2 0 0 mtX1_findJoints 0 [(0, .ref 394), (1, .int a0)] [] (go_mk tx μ) (go_Z w Q) := by
  unfold fX1_findJoints at h
  refine go_iconst (v := 0) dX1_findJoints_0 (by decide) ?_
  refine go_istore_n dX1_findJoints_1 (by decide) rfl ?_
  show Go w 2 0 0 mtX1_findJoints 2 [(2, .int 0), (0, .ref 394), (1, .int a0)] [] (go_mk tx μ) (go_Z w Q)
  obtain ⟨ρ8, hρ8, h⟩ := go_bind h
  refine go_pick [1, 2, 0] rfl ?_
  refine go_lp (G := ggX1_findJoints_2 w tx Q a0 ) (E := eeX1_findJoints_2 w tx Q a0 ) (fun s out h hK => lqX1_findJoints_2 w tx Q a0   s.1 s.2 out h hK) go_fuel (0, μ) ρ8 hρ8 ?_
  cases h
  exact hK
theorem ctX1_findJoints {w : go_Wd} {tx : Nat} {μ : PM} {a0 : Int32} {μ1 : PM}  (h : fX1_findJoints μ a0 = some μ1) : Ct w 2 0 0 mtX1_findJoints [.ref 394, .int a0] (go_mk tx μ) (fun r' M' => r' = none ∧ M' = go_mk tx μ1) :=
  go_entry rfl (by decide) (Nat.le_of_ble_eq_true rfl) (cmX1_findJoints w tx _ μ a0 _ h ⟨rfl, rfl⟩)
def jjJ6_numberOfTrailingZeros_0f7a4_74 (a0 : Int32) (v0 : Int32) (v1 : Int32)  : Int32 :=
  (v1 + (jushr v0 1))
def jjJ6_numberOfTrailingZeros_0f7a4_62 (a0 : Int32) (v0 : Int32) (v1 : Int32)  : Int32 :=
  (if v0 ≤ 4 then jjJ6_numberOfTrailingZeros_0f7a4_74 a0 v0 v1 else jjJ6_numberOfTrailingZeros_0f7a4_74 a0 ((jushr v0 2)) ((v1 + 2)))
def jjJ6_numberOfTrailingZeros_0f7a4_49 (a0 : Int32) (v0 : Int32) (v1 : Int32)  : Int32 :=
  (if v0 ≤ 16 then jjJ6_numberOfTrailingZeros_0f7a4_62 a0 v0 v1 else jjJ6_numberOfTrailingZeros_0f7a4_62 a0 ((jushr v0 4)) ((v1 + 4)))
def jjJ6_numberOfTrailingZeros_0f7a4_34 (a0 : Int32) (v0 : Int32) (v1 : Int32)  : Int32 :=
  (if v0 ≤ 256 then jjJ6_numberOfTrailingZeros_0f7a4_49 a0 v0 v1 else jjJ6_numberOfTrailingZeros_0f7a4_49 a0 ((jushr v0 8)) ((v1 + 8)))
def fJ6_numberOfTrailingZeros_0f7a4 (a0 : Int32) : Int32 :=
  go_let (((a0 ^^^ (-1)) &&& (a0 - 1))) fun x1 => (if 0 < x1 then (if x1 ≤ 65536 then jjJ6_numberOfTrailingZeros_0f7a4_34 a0 x1 1 else go_let ((jushr x1 16)) fun x2 => jjJ6_numberOfTrailingZeros_0f7a4_34 a0 x2 ((1 + 16))) else (x1 &&& 32))
set_option maxRecDepth 20000 in
set_option maxHeartbeats 4000000 in
theorem jqJ6_numberOfTrailingZeros_0f7a4_74 (w : go_Wd) (tx : Nat) (Q : Option Value → go_M → Prop) (μ : PM) (a0 : Int32) (v0 : Int32) (v1 : Int32)    (out : Int32) (h : jjJ6_numberOfTrailingZeros_0f7a4_74 a0 v0 v1  = out) (hK : Q (some (.int out)) (go_mk tx μ)) : Go w 0 0 0 mtJ6_numberOfTrailingZeros_0f7a4 74 [(0, .int v0), (1, .int v1)] [] (go_mk tx μ) (go_Z w Q) := by
  unfold jjJ6_numberOfTrailingZeros_0f7a4_74 at h
  refine go_iload_n dJ6_numberOfTrailingZeros_0f7a4_74 1 rfl ?_
  refine go_iload_n dJ6_numberOfTrailingZeros_0f7a4_75 0 rfl ?_
  refine go_iconst (v := 1) dJ6_numberOfTrailingZeros_0f7a4_76 (by decide) ?_
  refine go_iushr (v := (jushr v0 1)) dJ6_numberOfTrailingZeros_0f7a4_77 rfl ?_
  refine go_iadd dJ6_numberOfTrailingZeros_0f7a4_78 ?_
  subst h
  exact go_iret dJ6_numberOfTrailingZeros_0f7a4_79 rfl hK
set_option maxRecDepth 20000 in
set_option maxHeartbeats 4000000 in
theorem jqJ6_numberOfTrailingZeros_0f7a4_62 (w : go_Wd) (tx : Nat) (Q : Option Value → go_M → Prop) (μ : PM) (a0 : Int32) (v0 : Int32) (v1 : Int32)    (out : Int32) (h : jjJ6_numberOfTrailingZeros_0f7a4_62 a0 v0 v1  = out) (hK : Q (some (.int out)) (go_mk tx μ)) : Go w 0 0 0 mtJ6_numberOfTrailingZeros_0f7a4 62 [(0, .int v0), (1, .int v1)] [] (go_mk tx μ) (go_Z w Q) := by
  unfold jjJ6_numberOfTrailingZeros_0f7a4_62 at h
  refine go_iload_n dJ6_numberOfTrailingZeros_0f7a4_62 0 rfl ?_
  refine go_iconst (v := 4) dJ6_numberOfTrailingZeros_0f7a4_63 (by decide) ?_
  refine go_icmp_le 74 dJ6_numberOfTrailingZeros_0f7a4_64 (by decide) (fun hc => ?_) (fun hc => ?_)
  · have h := go_ifp hc h
    refine go_pick [0, 1] rfl ?_
    exact jqJ6_numberOfTrailingZeros_0f7a4_74 w tx Q μ a0 v0 v1    _ h hK
  · have h := go_ifn hc h
    refine go_iinc (v := (v1 + 2)) dJ6_numberOfTrailingZeros_0f7a4_67 1 rfl rfl (by decide) rfl ?_
    show Go w 0 0 0 mtJ6_numberOfTrailingZeros_0f7a4 70 [(1, .int (v1 + 2)), (0, .int v0)] [] (go_mk tx μ) (go_Z w Q)
    refine go_iload_n dJ6_numberOfTrailingZeros_0f7a4_70 1 rfl ?_
    refine go_iconst (v := 2) dJ6_numberOfTrailingZeros_0f7a4_71 (by decide) ?_
    refine go_iushr (v := (jushr v0 2)) dJ6_numberOfTrailingZeros_0f7a4_72 rfl ?_
    refine go_istore_n dJ6_numberOfTrailingZeros_0f7a4_73 (by decide) rfl ?_
    show Go w 0 0 0 mtJ6_numberOfTrailingZeros_0f7a4 74 [(0, .int (jushr v0 2)), (1, .int (v1 + 2))] [] (go_mk tx μ) (go_Z w Q)
    refine go_pick [0, 1] rfl ?_
    exact jqJ6_numberOfTrailingZeros_0f7a4_74 w tx Q μ a0 ((jushr v0 2)) ((v1 + 2))    _ h hK
set_option maxRecDepth 20000 in
set_option maxHeartbeats 4000000 in
theorem jqJ6_numberOfTrailingZeros_0f7a4_49 (w : go_Wd) (tx : Nat) (Q : Option Value → go_M → Prop) (μ : PM) (a0 : Int32) (v0 : Int32) (v1 : Int32)    (out : Int32) (h : jjJ6_numberOfTrailingZeros_0f7a4_49 a0 v0 v1  = out) (hK : Q (some (.int out)) (go_mk tx μ)) : Go w 0 0 0 mtJ6_numberOfTrailingZeros_0f7a4 49 [(0, .int v0), (1, .int v1)] [] (go_mk tx μ) (go_Z w Q) := by
  unfold jjJ6_numberOfTrailingZeros_0f7a4_49 at h
  refine go_iload_n dJ6_numberOfTrailingZeros_0f7a4_49 0 rfl ?_
  refine go_bipush (v := 16) dJ6_numberOfTrailingZeros_0f7a4_50 (by decide) ?_
  refine go_icmp_le 62 dJ6_numberOfTrailingZeros_0f7a4_52 (by decide) (fun hc => ?_) (fun hc => ?_)
  · have h := go_ifp hc h
    refine go_pick [0, 1] rfl ?_
    exact jqJ6_numberOfTrailingZeros_0f7a4_62 w tx Q μ a0 v0 v1    _ h hK
  · have h := go_ifn hc h
    refine go_iinc (v := (v1 + 4)) dJ6_numberOfTrailingZeros_0f7a4_55 1 rfl rfl (by decide) rfl ?_
    show Go w 0 0 0 mtJ6_numberOfTrailingZeros_0f7a4 58 [(1, .int (v1 + 4)), (0, .int v0)] [] (go_mk tx μ) (go_Z w Q)
    refine go_iload_n dJ6_numberOfTrailingZeros_0f7a4_58 1 rfl ?_
    refine go_iconst (v := 4) dJ6_numberOfTrailingZeros_0f7a4_59 (by decide) ?_
    refine go_iushr (v := (jushr v0 4)) dJ6_numberOfTrailingZeros_0f7a4_60 rfl ?_
    refine go_istore_n dJ6_numberOfTrailingZeros_0f7a4_61 (by decide) rfl ?_
    show Go w 0 0 0 mtJ6_numberOfTrailingZeros_0f7a4 62 [(0, .int (jushr v0 4)), (1, .int (v1 + 4))] [] (go_mk tx μ) (go_Z w Q)
    refine go_pick [0, 1] rfl ?_
    exact jqJ6_numberOfTrailingZeros_0f7a4_62 w tx Q μ a0 ((jushr v0 4)) ((v1 + 4))    _ h hK
set_option maxRecDepth 20000 in
set_option maxHeartbeats 4000000 in
theorem jqJ6_numberOfTrailingZeros_0f7a4_34 (w : go_Wd) (tx : Nat) (Q : Option Value → go_M → Prop) (μ : PM) (a0 : Int32) (v0 : Int32) (v1 : Int32)    (out : Int32) (h : jjJ6_numberOfTrailingZeros_0f7a4_34 a0 v0 v1  = out) (hK : Q (some (.int out)) (go_mk tx μ)) : Go w 0 0 0 mtJ6_numberOfTrailingZeros_0f7a4 34 [(0, .int v0), (1, .int v1)] [] (go_mk tx μ) (go_Z w Q) := by
  unfold jjJ6_numberOfTrailingZeros_0f7a4_34 at h
  refine go_iload_n dJ6_numberOfTrailingZeros_0f7a4_34 0 rfl ?_
  refine go_sipush (v := 256) dJ6_numberOfTrailingZeros_0f7a4_35 (by decide) ?_
  refine go_icmp_le 49 dJ6_numberOfTrailingZeros_0f7a4_38 (by decide) (fun hc => ?_) (fun hc => ?_)
  · have h := go_ifp hc h
    refine go_pick [0, 1] rfl ?_
    exact jqJ6_numberOfTrailingZeros_0f7a4_49 w tx Q μ a0 v0 v1    _ h hK
  · have h := go_ifn hc h
    refine go_iinc (v := (v1 + 8)) dJ6_numberOfTrailingZeros_0f7a4_41 1 rfl rfl (by decide) rfl ?_
    show Go w 0 0 0 mtJ6_numberOfTrailingZeros_0f7a4 44 [(1, .int (v1 + 8)), (0, .int v0)] [] (go_mk tx μ) (go_Z w Q)
    refine go_iload_n dJ6_numberOfTrailingZeros_0f7a4_44 1 rfl ?_
    refine go_bipush (v := 8) dJ6_numberOfTrailingZeros_0f7a4_45 (by decide) ?_
    refine go_iushr (v := (jushr v0 8)) dJ6_numberOfTrailingZeros_0f7a4_47 rfl ?_
    refine go_istore_n dJ6_numberOfTrailingZeros_0f7a4_48 (by decide) rfl ?_
    show Go w 0 0 0 mtJ6_numberOfTrailingZeros_0f7a4 49 [(0, .int (jushr v0 8)), (1, .int (v1 + 8))] [] (go_mk tx μ) (go_Z w Q)
    refine go_pick [0, 1] rfl ?_
    exact jqJ6_numberOfTrailingZeros_0f7a4_49 w tx Q μ a0 ((jushr v0 8)) ((v1 + 8))    _ h hK
set_option maxRecDepth 20000 in
set_option maxHeartbeats 4000000 in
theorem cmJ6_numberOfTrailingZeros_0f7a4 (w : go_Wd) (tx : Nat) (Q : Option Value → go_M → Prop) (μ : PM) (a0 : Int32) (out : Int32) (h : fJ6_numberOfTrailingZeros_0f7a4 a0 = out) (hK : Q (some (.int out)) (go_mk tx μ)) : Go w 0 0 0 mtJ6_numberOfTrailingZeros_0f7a4 0 [(0, .int a0)] [] (go_mk tx μ) (go_Z w Q) := by
  unfold fJ6_numberOfTrailingZeros_0f7a4 at h
  refine go_iload_n dJ6_numberOfTrailingZeros_0f7a4_0 0 rfl ?_
  refine go_iconst (v := (-1)) dJ6_numberOfTrailingZeros_0f7a4_1 (by decide) ?_
  refine go_ixor dJ6_numberOfTrailingZeros_0f7a4_2 ?_
  refine go_iload_n dJ6_numberOfTrailingZeros_0f7a4_3 0 rfl ?_
  refine go_iconst (v := 1) dJ6_numberOfTrailingZeros_0f7a4_4 (by decide) ?_
  refine go_isub dJ6_numberOfTrailingZeros_0f7a4_5 ?_
  refine go_iand dJ6_numberOfTrailingZeros_0f7a4_6 ?_
  obtain ⟨x1, hx1, h⟩ := go_let_e h
  refine go_top hx1 ?_
  refine go_istore_n dJ6_numberOfTrailingZeros_0f7a4_7 (by decide) rfl ?_
  show Go w 0 0 0 mtJ6_numberOfTrailingZeros_0f7a4 8 [(0, .int x1)] [] (go_mk tx μ) (go_Z w Q)
  refine go_iload_n dJ6_numberOfTrailingZeros_0f7a4_8 0 rfl ?_
  refine go_if_gt 17 dJ6_numberOfTrailingZeros_0f7a4_9 (by decide) (fun hc => ?_) (fun hc => ?_)
  · have h := go_ifp hc h
    refine go_iconst (v := 1) dJ6_numberOfTrailingZeros_0f7a4_17 (by decide) ?_
    refine go_istore_n dJ6_numberOfTrailingZeros_0f7a4_18 (by decide) rfl ?_
    show Go w 0 0 0 mtJ6_numberOfTrailingZeros_0f7a4 19 [(1, .int 1), (0, .int x1)] [] (go_mk tx μ) (go_Z w Q)
    refine go_iload_n dJ6_numberOfTrailingZeros_0f7a4_19 1 rfl ?_
    refine go_ldcw dJ6_numberOfTrailingZeros_0f7a4_20 kk_J6_264 ?_
    refine go_icmp_le 34 dJ6_numberOfTrailingZeros_0f7a4_23 (by decide) (fun hc => ?_) (fun hc => ?_)
    · have h := go_ifp hc h
      refine go_pick [1, 0] rfl ?_
      exact jqJ6_numberOfTrailingZeros_0f7a4_34 w tx Q μ a0 x1 1    _ h hK
    · have h := go_ifn hc h
      refine go_iinc (v := (1 + 16)) dJ6_numberOfTrailingZeros_0f7a4_26 0 rfl rfl (by decide) rfl ?_
      show Go w 0 0 0 mtJ6_numberOfTrailingZeros_0f7a4 29 [(1, .int (1 + 16)), (0, .int x1)] [] (go_mk tx μ) (go_Z w Q)
      refine go_iload_n dJ6_numberOfTrailingZeros_0f7a4_29 1 rfl ?_
      refine go_bipush (v := 16) dJ6_numberOfTrailingZeros_0f7a4_30 (by decide) ?_
      refine go_iushr (v := (jushr x1 16)) dJ6_numberOfTrailingZeros_0f7a4_32 rfl ?_
      obtain ⟨x2, hx2, h⟩ := go_let_e h
      refine go_top hx2 ?_
      refine go_istore_n dJ6_numberOfTrailingZeros_0f7a4_33 (by decide) rfl ?_
      show Go w 0 0 0 mtJ6_numberOfTrailingZeros_0f7a4 34 [(0, .int x2), (1, .int (1 + 16))] [] (go_mk tx μ) (go_Z w Q)
      refine go_pick [0, 1] rfl ?_
      exact jqJ6_numberOfTrailingZeros_0f7a4_34 w tx Q μ a0 x2 ((1 + 16))    _ h hK
  · have h := go_ifn hc h
    refine go_iload_n dJ6_numberOfTrailingZeros_0f7a4_12 0 rfl ?_
    refine go_bipush (v := 32) dJ6_numberOfTrailingZeros_0f7a4_13 (by decide) ?_
    refine go_iand dJ6_numberOfTrailingZeros_0f7a4_15 ?_
    subst h
    exact go_iret dJ6_numberOfTrailingZeros_0f7a4_16 rfl hK
theorem ctJ6_numberOfTrailingZeros_0f7a4 {w : go_Wd} {tx : Nat} {μ : PM} {a0 : Int32} {r : Int32}  (h : fJ6_numberOfTrailingZeros_0f7a4 a0 = r) : Ct w 0 0 0 mtJ6_numberOfTrailingZeros_0f7a4 [.int a0] (go_mk tx μ) (fun r' M' => r' = some (.int r) ∧ M' = go_mk tx μ) :=
  go_entry rfl (by decide) (Nat.le_of_ble_eq_true rfl) (cmJ6_numberOfTrailingZeros_0f7a4 w tx _ μ a0 _ h ⟨rfl, rfl⟩)
def jjX1_findMost_87_44 (μ : PM) (a0 : Int32) (v2 : Int32) (v3 : Int32) (v4 : Int32) (v5 : Int32) (v6 : Int32) (s0 : Int32) : Option ((Int32 × Int32) ⊕ ((Int32) ⊕ ((Int32 × PM) ⊕ (PM)))) :=
  (if s0 = 0 then some (.inl (v5, (v6 + 1))) else (if (fX11_hasBit v4 v6) = 0 then some (.inl (v5, (v6 + 1))) else go_chk (v4 &&& (((1 : Int32) <<< (v6 &&& 31)) ^^^ (-1))) 256 <| go_let ((jmax v5 ((μ.1 396 ((v4 &&& (((1 : Int32) <<< (v6 &&& 31)) ^^^ (-1))) : Int32).toNatClampNeg) + 1))) fun x8 => some (.inl (x8, (v6 + 1)))))
def jjX1_findMost_82_44 (μ : PM) (a0 : Int32) (v2 : Int32) (v3 : Int32) (v4 : Int32) (v5 : Int32) (v6 : Int32)  : Option ((Int32 × Int32) ⊕ ((Int32) ⊕ ((Int32 × PM) ⊕ (PM)))) :=
  jjX1_findMost_87_44 μ a0 v2 v3 v4 v5 v6 1
def lbX1_findMost_44 (μ : PM) (a0 : Int32) (v2 : Int32) (v3 : Int32) (v4 : Int32) (v5 : Int32) (v6 : Int32) : Option ((Int32 × Int32) ⊕ ((Int32) ⊕ ((Int32 × PM) ⊕ (PM)))) :=
  (if a0 ≤ v6 then some (.inr (.inl v5)) else go_chk ((v3 * 8) + v6) 64 <| (if (μ.1 395 (((v3 * 8) + v6) : Int32).toNatClampNeg) = (-1) then go_chk ((v6 * 8) + v3) 64 <| (if (μ.1 395 (((v6 * 8) + v3) : Int32).toNatClampNeg) = (-1) then jjX1_findMost_87_44 μ a0 v2 v3 v4 v5 v6 0 else jjX1_findMost_82_44 μ a0 v2 v3 v4 v5 v6) else jjX1_findMost_82_44 μ a0 v2 v3 v4 v5 v6))
def lbX1_findMost_9 (a0 : Int32)  (v2 : Int32) (μ : PM) : Option ((Int32 × PM) ⊕ (PM)) :=
  (if ((1 : Int32) <<< (a0 &&& 31)) ≤ v2 then some (.inr (μ)) else go_let ((fJ6_numberOfTrailingZeros_0f7a4 v2)) fun x2 => go_let ((v2 &&& (((1 : Int32) <<< (x2 &&& 31)) ^^^ (-1)))) fun x3 => go_chk x3 256 <| go_let ((μ.1 396 x3.toNatClampNeg)) fun x5 => ((lp (fun s => lbX1_findMost_44 μ a0 v2 x2 x3 s.1 s.2) go_fuel (x5, (x2 + 1))).bind fun ρ10 => go_cs ρ10 (fun e11 => go_chk v2 256 <| go_let (pm_wi μ 396 v2.toNatClampNeg e11) fun μ12 => some (.inl ((v2 + 1), μ12))) (fun y => some y)))
def fX1_findMost (μ : PM) (a0 : Int32) : Option (PM) :=
  go_let (pm_wi μ 396 0 0) fun μ1 => ((lp (fun s => lbX1_findMost_9 a0 s.1 s.2) go_fuel (1, μ1)).bind fun ρ14 => some ρ14)
def ggX1_findMost_44 (w : go_Wd) (tx : Nat) (Q : Option Value → go_M → Prop) (μ : PM) (a0 : Int32) (v2 : Int32) (v3 : Int32) (v4 : Int32) (s : Int32 × Int32) : Prop := Go w 1 0 0 mtX1_findMost 44 [(0, .ref 394), (1, .int a0), (2, .int v2), (3, .int v3), (4, .int v4), (5, .int s.1), (6, .int s.2)] [] (go_mk tx μ) (go_Z w Q)
def ggX1_findMost_9 (w : go_Wd) (tx : Nat) (Q : Option Value → go_M → Prop) (a0 : Int32)  (s : Int32 × PM) : Prop := Go w 1 0 0 mtX1_findMost 9 [(0, .ref 394), (1, .int a0), (2, .int s.1)] [] (go_mk tx s.2) (go_Z w Q)
def eeX1_findMost_9 (w : go_Wd) (tx : Nat) (Q : Option Value → go_M → Prop) (a0 : Int32)  (y : PM) : Prop := Q none (go_mk tx y)
def eeX1_findMost_44 (w : go_Wd) (tx : Nat) (Q : Option Value → go_M → Prop) (μ : PM) (a0 : Int32) (v2 : Int32) (v3 : Int32) (v4 : Int32) : (Int32) ⊕ ((Int32 × PM) ⊕ (PM)) → Prop
  | .inl e => Go w 1 0 0 mtX1_findMost 133 [(0, .ref 394), (1, .int a0), (2, .int v2), (5, .int e)] [] (go_mk tx μ) (go_Z w Q)
  | .inr y => go_out (ggX1_findMost_9 w tx Q a0 ) (eeX1_findMost_9 w tx Q a0 ) y
set_option maxRecDepth 20000 in
set_option maxHeartbeats 4000000 in
theorem jqX1_findMost_87_44 (w : go_Wd) (tx : Nat) (Q : Option Value → go_M → Prop) (μ : PM) (a0 : Int32) (v2 : Int32) (v3 : Int32) (v4 : Int32) (v5 : Int32) (v6 : Int32)  (s0 : Int32) (hs0 : s0 = 0 ∨ s0 = 1) (out : (Int32 × Int32) ⊕ ((Int32) ⊕ ((Int32 × PM) ⊕ (PM)))) (h : jjX1_findMost_87_44 μ a0 v2 v3 v4 v5 v6 s0 = some out) (hK : go_out (ggX1_findMost_44 w tx Q μ a0 v2 v3 v4) (eeX1_findMost_44 w tx Q μ a0 v2 v3 v4) out) : Go w 1 0 0 mtX1_findMost 87 [(0, .ref 394), (1, .int a0), (2, .int v2), (3, .int v3), (4, .int v4), (5, .int v5), (6, .int v6)] [.int s0] (go_mk tx μ) (go_Z w Q) := by
  unfold jjX1_findMost_87_44 at h
  refine go_istore dX1_findMost_87 (by decide) rfl ?_
  show Go w 1 0 0 mtX1_findMost 89 [(7, .int s0), (0, .ref 394), (1, .int a0), (2, .int v2), (3, .int v3), (4, .int v4), (5, .int v5), (6, .int v6)] [] (go_mk tx μ) (go_Z w Q)
  refine go_iload dX1_findMost_89 0 rfl ?_
  refine go_if_eq 127 dX1_findMost_91 (by decide) (fun hc => ?_) (fun hc => ?_)
  · have h := go_ifp hc h
    refine go_iinc (v := (v6 + 1)) dX1_findMost_127 7 rfl rfl (by decide) rfl ?_
    show Go w 1 0 0 mtX1_findMost 130 [(6, .int (v6 + 1)), (7, .int s0), (0, .ref 394), (1, .int a0), (2, .int v2), (3, .int v3), (4, .int v4), (5, .int v5)] [] (go_mk tx μ) (go_Z w Q)
    refine go_goto 44 dX1_findMost_130 (by decide) ?_
    cases h
    have hK : Go w 1 0 0 mtX1_findMost 44 [(0, .ref 394), (1, .int a0), (2, .int v2), (3, .int v3), (4, .int v4), (5, .int v5), (6, .int (v6 + 1))] [] (go_mk tx μ) (go_Z w Q) := hK
    exact go_pick [2, 3, 4, 5, 6, 7, 0] rfl hK
  · have h := go_ifn hc h
    refine go_iload dX1_findMost_94 5 rfl ?_
    refine go_iload dX1_findMost_96 7 rfl ?_
    refine pp_callSN (as := [.int v4, .int v6]) (st := []) (rv := (some (.int (fX11_hasBit v4 v6)))) (μ1 := μ) (st1 := [.int (fX11_hasBit v4 v6)]) dX1_findMost_98 ll_X1_76 (ctX11_hasBit  rfl) rfl (Nat.le_of_ble_eq_true rfl) (Nat.le_of_ble_eq_true rfl) (go_Z_up w _) rfl rfl ?_
    refine go_if_eq 127 dX1_findMost_101 (by decide) (fun hc => ?_) (fun hc => ?_)
    · have h := go_ifp hc h
      refine go_iinc (v := (v6 + 1)) dX1_findMost_127 7 rfl rfl (by decide) rfl ?_
      show Go w 1 0 0 mtX1_findMost 130 [(6, .int (v6 + 1)), (7, .int s0), (0, .ref 394), (1, .int a0), (2, .int v2), (3, .int v3), (4, .int v4), (5, .int v5)] [] (go_mk tx μ) (go_Z w Q)
      refine go_goto 44 dX1_findMost_130 (by decide) ?_
      cases h
      have hK : Go w 1 0 0 mtX1_findMost 44 [(0, .ref 394), (1, .int a0), (2, .int v2), (3, .int v3), (4, .int v4), (5, .int v5), (6, .int (v6 + 1))] [] (go_mk tx μ) (go_Z w Q) := hK
      exact go_pick [2, 3, 4, 5, 6, 7, 0] rfl hK
    · have h := go_ifn hc h
      refine go_iload dX1_findMost_104 6 rfl ?_
      refine go_aload_n dX1_findMost_106 1 rfl ?_
      refine pp_getR dX1_findMost_107 ff_X1_15 (Or.inr ⟨_, rfl⟩) sh_394 rf_394_2 ?_
      refine go_iload dX1_findMost_110 5 rfl ?_
      refine go_iconst (v := 1) dX1_findMost_112 (by decide) ?_
      refine go_iload dX1_findMost_113 7 rfl ?_
      refine go_ishl dX1_findMost_115 ?_
      refine go_iconst (v := (-1)) dX1_findMost_116 (by decide) ?_
      refine go_ixor dX1_findMost_117 ?_
      refine go_iand dX1_findMost_118 ?_
      obtain ⟨hz7, h⟩ := go_chk_e h
      refine pp_ild dX1_findMost_119 sh_396 hz7 ?_
      refine go_iconst (v := 1) dX1_findMost_120 (by decide) ?_
      refine go_iadd dX1_findMost_121 ?_
      refine go_mmax dX1_findMost_122 mm_X1_80 (by decide) (Nat.le_of_ble_eq_true rfl) ?_
      refine go_top (x := (jmax v5 ((μ.1 396 ((v4 &&& (((1 : Int32) <<< (v6 &&& 31)) ^^^ (-1))) : Int32).toNatClampNeg) + 1))) rfl ?_
      obtain ⟨x8, hx8, h⟩ := go_let_e h
      refine go_top hx8 ?_
      refine go_istore dX1_findMost_125 (by decide) rfl ?_
      show Go w 1 0 0 mtX1_findMost 127 [(5, .int x8), (7, .int s0), (0, .ref 394), (1, .int a0), (2, .int v2), (3, .int v3), (4, .int v4), (6, .int v6)] [] (go_mk tx μ) (go_Z w Q)
      refine go_iinc (v := (v6 + 1)) dX1_findMost_127 7 rfl rfl (by decide) rfl ?_
      show Go w 1 0 0 mtX1_findMost 130 [(6, .int (v6 + 1)), (5, .int x8), (7, .int s0), (0, .ref 394), (1, .int a0), (2, .int v2), (3, .int v3), (4, .int v4)] [] (go_mk tx μ) (go_Z w Q)
      refine go_goto 44 dX1_findMost_130 (by decide) ?_
      cases h
      have hK : Go w 1 0 0 mtX1_findMost 44 [(0, .ref 394), (1, .int a0), (2, .int v2), (3, .int v3), (4, .int v4), (5, .int x8), (6, .int (v6 + 1))] [] (go_mk tx μ) (go_Z w Q) := hK
      exact go_pick [3, 4, 5, 6, 7, 1, 0] rfl hK
set_option maxRecDepth 20000 in
set_option maxHeartbeats 4000000 in
theorem jqX1_findMost_82_44 (w : go_Wd) (tx : Nat) (Q : Option Value → go_M → Prop) (μ : PM) (a0 : Int32) (v2 : Int32) (v3 : Int32) (v4 : Int32) (v5 : Int32) (v6 : Int32)    (out : (Int32 × Int32) ⊕ ((Int32) ⊕ ((Int32 × PM) ⊕ (PM)))) (h : jjX1_findMost_82_44 μ a0 v2 v3 v4 v5 v6  = some out) (hK : go_out (ggX1_findMost_44 w tx Q μ a0 v2 v3 v4) (eeX1_findMost_44 w tx Q μ a0 v2 v3 v4) out) : Go w 1 0 0 mtX1_findMost 82 [(0, .ref 394), (1, .int a0), (2, .int v2), (3, .int v3), (4, .int v4), (5, .int v5), (6, .int v6)] [] (go_mk tx μ) (go_Z w Q) := by
  unfold jjX1_findMost_82_44 at h
  refine go_iconst (v := 1) dX1_findMost_82 (by decide) ?_
  refine go_goto 87 dX1_findMost_83 (by decide) ?_
  refine go_pick [0, 1, 2, 3, 4, 5, 6] rfl ?_
  exact jqX1_findMost_87_44 w tx Q μ a0 v2 v3 v4 v5 v6  1 (Or.inr rfl) _ h hK
set_option maxRecDepth 20000 in
set_option maxHeartbeats 4000000 in
theorem lqX1_findMost_44 (w : go_Wd) (tx : Nat) (Q : Option Value → go_M → Prop) (μ : PM) (a0 : Int32) (v2 : Int32) (v3 : Int32) (v4 : Int32)  (v5 : Int32) (v6 : Int32) (out : (Int32 × Int32) ⊕ ((Int32) ⊕ ((Int32 × PM) ⊕ (PM)))) (h : lbX1_findMost_44 μ a0 v2 v3 v4 v5 v6 = some out) (hK : go_out (ggX1_findMost_44 w tx Q μ a0 v2 v3 v4) (eeX1_findMost_44 w tx Q μ a0 v2 v3 v4) out) : ggX1_findMost_44 w tx Q μ a0 v2 v3 v4 (v5, v6) := by
  unfold lbX1_findMost_44 at h
  show Go w 1 0 0 mtX1_findMost 44 [(0, .ref 394), (1, .int a0), (2, .int v2), (3, .int v3), (4, .int v4), (5, .int v5), (6, .int v6)] [] (go_mk tx μ) (go_Z w Q)
  refine go_iload dX1_findMost_44 6 rfl ?_
  refine go_iload_n dX1_findMost_46 1 rfl ?_
  refine go_icmp_ge 133 dX1_findMost_47 (by decide) (fun hc => ?_) (fun hc => ?_)
  · have h := go_ifp hc h
    cases h
    have hK : Go w 1 0 0 mtX1_findMost 133 [(0, .ref 394), (1, .int a0), (2, .int v2), (5, .int v5)] [] (go_mk tx μ) (go_Z w Q) := hK
    exact go_pick [0, 1, 2, 5] rfl hK
  · have h := go_ifn hc h
    refine go_aload_n dX1_findMost_50 0 rfl ?_
    refine pp_getR dX1_findMost_51 ff_X1_9 (Or.inr ⟨_, rfl⟩) sh_394 rf_394_1 ?_
    refine go_iload_n dX1_findMost_54 3 rfl ?_
    refine go_bipush (v := 8) dX1_findMost_55 (by decide) ?_
    refine go_imul dX1_findMost_57 ?_
    refine go_iload dX1_findMost_58 6 rfl ?_
    refine go_iadd dX1_findMost_60 ?_
    obtain ⟨hz6, h⟩ := go_chk_e h
    refine pp_ild dX1_findMost_61 sh_395 hz6 ?_
    refine go_iconst (v := (-1)) dX1_findMost_62 (by decide) ?_
    refine go_icmp_ne 82 dX1_findMost_63 (by decide) (fun hc => ?_) (fun hc => ?_)
    · have h := go_ifn hc h
      refine go_pick [0, 1, 2, 3, 4, 5, 6] rfl ?_
      exact jqX1_findMost_82_44 w tx Q μ a0 v2 v3 v4 v5 v6    _ h hK
    · have h := go_ifp hc h
      refine go_aload_n dX1_findMost_66 0 rfl ?_
      refine pp_getR dX1_findMost_67 ff_X1_9 (Or.inr ⟨_, rfl⟩) sh_394 rf_394_1 ?_
      refine go_iload dX1_findMost_70 6 rfl ?_
      refine go_bipush (v := 8) dX1_findMost_72 (by decide) ?_
      refine go_imul dX1_findMost_74 ?_
      refine go_iload_n dX1_findMost_75 3 rfl ?_
      refine go_iadd dX1_findMost_76 ?_
      obtain ⟨hz9, h⟩ := go_chk_e h
      refine pp_ild dX1_findMost_77 sh_395 hz9 ?_
      refine go_iconst (v := (-1)) dX1_findMost_78 (by decide) ?_
      refine go_icmp_eq 86 dX1_findMost_79 (by decide) (fun hc => ?_) (fun hc => ?_)
      · have h := go_ifp hc h
        refine go_iconst (v := 0) dX1_findMost_86 (by decide) ?_
        refine go_pick [0, 1, 2, 3, 4, 5, 6] rfl ?_
        exact jqX1_findMost_87_44 w tx Q μ a0 v2 v3 v4 v5 v6  0 (Or.inl rfl) _ h hK
      · have h := go_ifn hc h
        refine go_pick [0, 1, 2, 3, 4, 5, 6] rfl ?_
        exact jqX1_findMost_82_44 w tx Q μ a0 v2 v3 v4 v5 v6    _ h hK
set_option maxRecDepth 20000 in
set_option maxHeartbeats 4000000 in
theorem lqX1_findMost_9 (w : go_Wd) (tx : Nat) (Q : Option Value → go_M → Prop) (a0 : Int32)   (v2 : Int32) (μ : PM) (out : (Int32 × PM) ⊕ (PM)) (h : lbX1_findMost_9 a0  v2 μ = some out) (hK : go_out (ggX1_findMost_9 w tx Q a0 ) (eeX1_findMost_9 w tx Q a0 ) out) : ggX1_findMost_9 w tx Q a0  (v2, μ) := by
  unfold lbX1_findMost_9 at h
  show Go w 1 0 0 mtX1_findMost 9 [(0, .ref 394), (1, .int a0), (2, .int v2)] [] (go_mk tx μ) (go_Z w Q)
  refine go_iload_n dX1_findMost_9 2 rfl ?_
  refine go_iconst (v := 1) dX1_findMost_10 (by decide) ?_
  refine go_iload_n dX1_findMost_11 1 rfl ?_
  refine go_ishl dX1_findMost_12 ?_
  refine go_icmp_ge 147 dX1_findMost_13 (by decide) (fun hc => ?_) (fun hc => ?_)
  · have h := go_ifp hc h
    cases h
    exact go_vret dX1_findMost_147 rfl hK
  · have h := go_ifn hc h
    refine go_iload_n dX1_findMost_16 2 rfl ?_
    refine pp_callS (as := [.int v2]) (st := []) (rv := (some (.int (fJ6_numberOfTrailingZeros_0f7a4 v2)))) (μ1 := μ) (st1 := [.int (fJ6_numberOfTrailingZeros_0f7a4 v2)]) dX1_findMost_17 ll_X1_71 (ctJ6_numberOfTrailingZeros_0f7a4  rfl) rfl (Nat.le_of_ble_eq_true rfl) (Nat.le_of_ble_eq_true rfl) (go_Z_up w _) rfl rfl ?_
    obtain ⟨x2, hx2, h⟩ := go_let_e h
    refine go_top hx2 ?_
    refine go_istore_n dX1_findMost_20 (by decide) rfl ?_
    show Go w 1 0 0 mtX1_findMost 21 [(3, .int x2), (0, .ref 394), (1, .int a0), (2, .int v2)] [] (go_mk tx μ) (go_Z w Q)
    refine go_iload_n dX1_findMost_21 3 rfl ?_
    refine go_iconst (v := 1) dX1_findMost_22 (by decide) ?_
    refine go_iload_n dX1_findMost_23 0 rfl ?_
    refine go_ishl dX1_findMost_24 ?_
    refine go_iconst (v := (-1)) dX1_findMost_25 (by decide) ?_
    refine go_ixor dX1_findMost_26 ?_
    refine go_iand dX1_findMost_27 ?_
    obtain ⟨x3, hx3, h⟩ := go_let_e h
    refine go_top hx3 ?_
    refine go_istore dX1_findMost_28 (by decide) rfl ?_
    show Go w 1 0 0 mtX1_findMost 30 [(4, .int x3), (3, .int x2), (0, .ref 394), (1, .int a0), (2, .int v2)] [] (go_mk tx μ) (go_Z w Q)
    refine go_aload_n dX1_findMost_30 2 rfl ?_
    refine pp_getR dX1_findMost_31 ff_X1_15 (Or.inr ⟨_, rfl⟩) sh_394 rf_394_2 ?_
    refine go_iload dX1_findMost_34 0 rfl ?_
    obtain ⟨hz4, h⟩ := go_chk_e h
    refine pp_ild dX1_findMost_36 sh_396 hz4 ?_
    obtain ⟨x5, hx5, h⟩ := go_let_e h
    refine go_top hx5 ?_
    refine go_istore dX1_findMost_37 (by decide) rfl ?_
    show Go w 1 0 0 mtX1_findMost 39 [(5, .int x5), (4, .int x3), (3, .int x2), (0, .ref 394), (1, .int a0), (2, .int v2)] [] (go_mk tx μ) (go_Z w Q)
    refine go_iload_n dX1_findMost_39 2 rfl ?_
    refine go_iconst (v := 1) dX1_findMost_40 (by decide) ?_
    refine go_iadd dX1_findMost_41 ?_
    refine go_istore dX1_findMost_42 (by decide) rfl ?_
    show Go w 1 0 0 mtX1_findMost 44 [(6, .int (x2 + 1)), (5, .int x5), (4, .int x3), (3, .int x2), (0, .ref 394), (1, .int a0), (2, .int v2)] [] (go_mk tx μ) (go_Z w Q)
    obtain ⟨ρ10, hρ10, h⟩ := go_bind h
    refine go_pick [4, 5, 6, 3, 2, 1, 0] rfl ?_
    refine go_lp (G := ggX1_findMost_44 w tx Q μ a0 v2 x2 x3) (E := eeX1_findMost_44 w tx Q μ a0 v2 x2 x3) (fun s out h hK => lqX1_findMost_44 w tx Q μ a0 v2 x2 x3  s.1 s.2 out h hK) go_fuel (x5, (x2 + 1)) ρ10 hρ10 ?_
    rcases ρ10 with e11 | y
    · have h := go_csl h
      show Go w 1 0 0 mtX1_findMost 133 [(0, .ref 394), (1, .int a0), (2, .int v2), (5, .int e11)] [] (go_mk tx μ) (go_Z w Q)
      refine go_aload_n dX1_findMost_133 0 rfl ?_
      refine pp_getR dX1_findMost_134 ff_X1_15 (Or.inr ⟨_, rfl⟩) sh_394 rf_394_2 ?_
      refine go_iload_n dX1_findMost_137 2 rfl ?_
      refine go_iload dX1_findMost_138 3 rfl ?_
      obtain ⟨hz13, h⟩ := go_chk_e h
      obtain ⟨μ12, hμ12, h⟩ := go_let_e h
      refine pp_ist dX1_findMost_140 sh_396 hz13 hμ12 ?_
      refine go_iinc (v := (v2 + 1)) dX1_findMost_141 2 rfl rfl (by decide) rfl ?_
      show Go w 1 0 0 mtX1_findMost 144 [(2, .int (v2 + 1)), (0, .ref 394), (1, .int a0), (5, .int e11)] [] (go_mk tx μ12) (go_Z w Q)
      refine go_goto 9 dX1_findMost_144 (by decide) ?_
      cases h
      have hK : Go w 1 0 0 mtX1_findMost 9 [(0, .ref 394), (1, .int a0), (2, .int (v2 + 1))] [] (go_mk tx μ12) (go_Z w Q) := hK
      exact go_pick [1, 2, 0] rfl hK
    · have h := go_csr h
      cases h
      exact hK
set_option maxRecDepth 20000 in
set_option maxHeartbeats 4000000 in
theorem cmX1_findMost (w : go_Wd) (tx : Nat) (Q : Option Value → go_M → Prop) (μ : PM) (a0 : Int32) (out : PM) (h : fX1_findMost μ a0 = some out) (hK : Q none (go_mk tx out)) : Go w 1 0 0 mtX1_findMost 0 [(0, .ref 394), (1, .int a0)] [] (go_mk tx μ) (go_Z w Q) := by
  unfold fX1_findMost at h
  refine go_aload_n dX1_findMost_0 0 rfl ?_
  refine pp_getR dX1_findMost_1 ff_X1_15 (Or.inr ⟨_, rfl⟩) sh_394 rf_394_2 ?_
  refine go_iconst (v := 0) dX1_findMost_4 (by decide) ?_
  refine go_iconst (v := 0) dX1_findMost_5 (by decide) ?_
  obtain ⟨μ1, hμ1, h⟩ := go_let_e h
  refine pp_istc (q := 0) dX1_findMost_6 sh_396 (by decide) hμ1 ?_
  refine go_iconst (v := 1) dX1_findMost_7 (by decide) ?_
  refine go_istore_n dX1_findMost_8 (by decide) rfl ?_
  show Go w 1 0 0 mtX1_findMost 9 [(2, .int 1), (0, .ref 394), (1, .int a0)] [] (go_mk tx μ1) (go_Z w Q)
  obtain ⟨ρ14, hρ14, h⟩ := go_bind h
  refine go_pick [1, 2, 0] rfl ?_
  refine go_lp (G := ggX1_findMost_9 w tx Q a0 ) (E := eeX1_findMost_9 w tx Q a0 ) (fun s out h hK => lqX1_findMost_9 w tx Q a0   s.1 s.2 out h hK) go_fuel (1, μ1) ρ14 hρ14 ?_
  cases h
  exact hK
theorem ctX1_findMost {w : go_Wd} {tx : Nat} {μ : PM} {a0 : Int32} {μ1 : PM}  (h : fX1_findMost μ a0 = some μ1) : Ct w 1 0 0 mtX1_findMost [.ref 394, .int a0] (go_mk tx μ) (fun r' M' => r' = none ∧ M' = go_mk tx μ1) :=
  go_entry rfl (by decide) (Nat.le_of_ble_eq_true rfl) (cmX1_findMost w tx _ μ a0 _ h ⟨rfl, rfl⟩)
def lbX1_join_44  (v1 : Int32) (v3 : Int32) (v2 : Int32) (v4 : Int32) (μ : PM) : Option ((Int32 × Int32 × PM) ⊕ ((Int32 × PM) ⊕ ((Int32 × Int32 × PM) ⊕ (PM)))) :=
  (if v1 ≤ v4 then some (.inr (.inl (v2, μ))) else go_let ((((1 : Int32) <<< (v3 &&& 31)) ||| ((1 : Int32) <<< (v4 &&& 31)))) fun x6 => go_chk ((v3 * 8) + v4) 64 <| go_let ((μ.1 395 (((v3 * 8) + v4) : Int32).toNatClampNeg)) fun x8 => (if x8 = (-1) then some (.inl (v2, (v4 + 1), μ)) else (if (v2 &&& x6) = x6 then go_chk (v2 &&& (x6 ^^^ (-1))) 256 <| go_chk v2 256 <| (if ((μ.1 396 ((v2 &&& (x6 ^^^ (-1))) : Int32).toNatClampNeg) + 1) = (μ.1 396 v2.toNatClampNeg) then (if 4 ≤ (μ.1 394 4) then some (.inl (v2, (v4 + 1), μ)) else go_chk (μ.1 394 4) 4 <| go_let (pm_wi μ 397 ((μ.1 394 4) : Int32).toNatClampNeg (((100 * v3) + (10 * v4)) + x8)) fun μ11 => go_let (pm_wi μ11 394 4 ((μ11.1 394 4) + 1)) fun μ13 => go_let ((v2 &&& (x6 ^^^ (-1)))) fun x14 => some (.inl (x14, (v4 + 1), μ13))) else some (.inl (v2, (v4 + 1), μ))) else some (.inl (v2, (v4 + 1), μ)))))
def lbX1_join_36  (v1 : Int32) (v2 : Int32) (v3 : Int32) (μ : PM) : Option ((Int32 × Int32 × PM) ⊕ (PM)) :=
  (if v1 ≤ v3 then some (.inr (μ)) else ((lp (fun s => lbX1_join_44 v1 v3 s.1 s.2.1 s.2.2) go_fuel (v2, 0, μ)).bind fun ρ15 => go_cs ρ15 (fun e16 => some (.inl (e16.1, (v3 + 1), e16.2))) (fun y => some y)))
def fX1_join (μ : PM)  : Option (PM) :=
  go_let ((jmin (μ.1 1 16) 8)) fun x1 => (fX1_findJoints μ x1).bind fun q2 => (fX1_findMost q2 x1).bind fun q3 => go_let (pm_wi q3 394 4 0) fun μ4 => go_let ((((1 : Int32) <<< (x1 &&& 31)) - 1)) fun x5 => ((lp (fun s => lbX1_join_36 x1 s.1 s.2.1 s.2.2) go_fuel (x5, 0, μ4)).bind fun ρ17 => some ρ17)
def ggX1_join_44 (w : go_Wd) (tx : Nat) (Q : Option Value → go_M → Prop)  (v1 : Int32) (v3 : Int32) (s : Int32 × Int32 × PM) : Prop := Go w 3 0 0 mtX1_join 44 [(0, .ref 394), (1, .int v1), (2, .int s.1), (3, .int v3), (4, .int s.2.1)] [] (go_mk tx s.2.2) (go_Z w Q)
def ggX1_join_36 (w : go_Wd) (tx : Nat) (Q : Option Value → go_M → Prop)  (v1 : Int32) (s : Int32 × Int32 × PM) : Prop := Go w 3 0 0 mtX1_join 36 [(0, .ref 394), (1, .int v1), (2, .int s.1), (3, .int s.2.1)] [] (go_mk tx s.2.2) (go_Z w Q)
def eeX1_join_36 (w : go_Wd) (tx : Nat) (Q : Option Value → go_M → Prop)  (v1 : Int32) (y : PM) : Prop := Q none (go_mk tx y)
def eeX1_join_44 (w : go_Wd) (tx : Nat) (Q : Option Value → go_M → Prop)  (v1 : Int32) (v3 : Int32) : (Int32 × PM) ⊕ ((Int32 × Int32 × PM) ⊕ (PM)) → Prop
  | .inl e => Go w 3 0 0 mtX1_join 168 [(0, .ref 394), (1, .int v1), (2, .int e.1), (3, .int v3)] [] (go_mk tx e.2) (go_Z w Q)
  | .inr y => go_out (ggX1_join_36 w tx Q  v1) (eeX1_join_36 w tx Q  v1) y
set_option maxRecDepth 20000 in
set_option maxHeartbeats 4000000 in
theorem lqX1_join_44 (w : go_Wd) (tx : Nat) (Q : Option Value → go_M → Prop)  (v1 : Int32) (v3 : Int32)  (v2 : Int32) (v4 : Int32) (μ : PM) (out : (Int32 × Int32 × PM) ⊕ ((Int32 × PM) ⊕ ((Int32 × Int32 × PM) ⊕ (PM)))) (h : lbX1_join_44 v1 v3 v2 v4 μ = some out) (hK : go_out (ggX1_join_44 w tx Q  v1 v3) (eeX1_join_44 w tx Q  v1 v3) out) : ggX1_join_44 w tx Q  v1 v3 (v2, v4, μ) := by
  unfold lbX1_join_44 at h
  show Go w 3 0 0 mtX1_join 44 [(0, .ref 394), (1, .int v1), (2, .int v2), (3, .int v3), (4, .int v4)] [] (go_mk tx μ) (go_Z w Q)
  refine go_iload dX1_join_44 4 rfl ?_
  refine go_iload_n dX1_join_46 1 rfl ?_
  refine go_icmp_ge 168 dX1_join_47 (by decide) (fun hc => ?_) (fun hc => ?_)
  · have h := go_ifp hc h
    cases h
    have hK : Go w 3 0 0 mtX1_join 168 [(0, .ref 394), (1, .int v1), (2, .int v2), (3, .int v3)] [] (go_mk tx μ) (go_Z w Q) := hK
    exact go_pick [0, 1, 2, 3] rfl hK
  · have h := go_ifn hc h
    refine go_iconst (v := 1) dX1_join_50 (by decide) ?_
    refine go_iload_n dX1_join_51 3 rfl ?_
    refine go_ishl dX1_join_52 ?_
    refine go_iconst (v := 1) dX1_join_53 (by decide) ?_
    refine go_iload dX1_join_54 4 rfl ?_
    refine go_ishl dX1_join_56 ?_
    refine go_ior dX1_join_57 ?_
    obtain ⟨x6, hx6, h⟩ := go_let_e h
    refine go_top hx6 ?_
    refine go_istore dX1_join_58 (by decide) rfl ?_
    show Go w 3 0 0 mtX1_join 60 [(5, .int x6), (0, .ref 394), (1, .int v1), (2, .int v2), (3, .int v3), (4, .int v4)] [] (go_mk tx μ) (go_Z w Q)
    refine go_aload_n dX1_join_60 1 rfl ?_
    refine pp_getR dX1_join_61 ff_X1_9 (Or.inr ⟨_, rfl⟩) sh_394 rf_394_1 ?_
    refine go_iload_n dX1_join_64 4 rfl ?_
    refine go_bipush (v := 8) dX1_join_65 (by decide) ?_
    refine go_imul dX1_join_67 ?_
    refine go_iload dX1_join_68 5 rfl ?_
    refine go_iadd dX1_join_70 ?_
    obtain ⟨hz7, h⟩ := go_chk_e h
    refine pp_ild dX1_join_71 sh_395 hz7 ?_
    obtain ⟨x8, hx8, h⟩ := go_let_e h
    refine go_top hx8 ?_
    refine go_istore dX1_join_72 (by decide) rfl ?_
    show Go w 3 0 0 mtX1_join 74 [(6, .int x8), (5, .int x6), (0, .ref 394), (1, .int v1), (2, .int v2), (3, .int v3), (4, .int v4)] [] (go_mk tx μ) (go_Z w Q)
    refine go_iload dX1_join_74 0 rfl ?_
    refine go_iconst (v := (-1)) dX1_join_76 (by decide) ?_
    refine go_icmp_eq 162 dX1_join_77 (by decide) (fun hc => ?_) (fun hc => ?_)
    · have h := go_ifp hc h
      refine go_iinc (v := (v4 + 1)) dX1_join_162 6 rfl rfl (by decide) rfl ?_
      show Go w 3 0 0 mtX1_join 165 [(4, .int (v4 + 1)), (6, .int x8), (5, .int x6), (0, .ref 394), (1, .int v1), (2, .int v2), (3, .int v3)] [] (go_mk tx μ) (go_Z w Q)
      refine go_goto 44 dX1_join_165 (by decide) ?_
      cases h
      have hK : Go w 3 0 0 mtX1_join 44 [(0, .ref 394), (1, .int v1), (2, .int v2), (3, .int v3), (4, .int (v4 + 1))] [] (go_mk tx μ) (go_Z w Q) := hK
      exact go_pick [3, 4, 5, 6, 0] rfl hK
    · have h := go_ifn hc h
      refine go_iload_n dX1_join_80 4 rfl ?_
      refine go_iload dX1_join_81 1 rfl ?_
      refine go_iand dX1_join_83 ?_
      refine go_iload dX1_join_84 1 rfl ?_
      refine go_icmp_ne 162 dX1_join_86 (by decide) (fun hc => ?_) (fun hc => ?_)
      · have h := go_ifn hc h
        refine go_iinc (v := (v4 + 1)) dX1_join_162 6 rfl rfl (by decide) rfl ?_
        show Go w 3 0 0 mtX1_join 165 [(4, .int (v4 + 1)), (6, .int x8), (5, .int x6), (0, .ref 394), (1, .int v1), (2, .int v2), (3, .int v3)] [] (go_mk tx μ) (go_Z w Q)
        refine go_goto 44 dX1_join_165 (by decide) ?_
        cases h
        have hK : Go w 3 0 0 mtX1_join 44 [(0, .ref 394), (1, .int v1), (2, .int v2), (3, .int v3), (4, .int (v4 + 1))] [] (go_mk tx μ) (go_Z w Q) := hK
        exact go_pick [3, 4, 5, 6, 0] rfl hK
      · have h := go_ifp hc h
        refine go_aload_n dX1_join_89 2 rfl ?_
        refine pp_getR dX1_join_90 ff_X1_15 (Or.inr ⟨_, rfl⟩) sh_394 rf_394_2 ?_
        refine go_iload_n dX1_join_93 4 rfl ?_
        refine go_iload dX1_join_94 1 rfl ?_
        refine go_iconst (v := (-1)) dX1_join_96 (by decide) ?_
        refine go_ixor dX1_join_97 ?_
        refine go_iand dX1_join_98 ?_
        obtain ⟨hz9, h⟩ := go_chk_e h
        refine pp_ild dX1_join_99 sh_396 hz9 ?_
        refine go_iconst (v := 1) dX1_join_100 (by decide) ?_
        refine go_iadd dX1_join_101 ?_
        refine go_aload_n dX1_join_102 2 rfl ?_
        refine pp_getR dX1_join_103 ff_X1_15 (Or.inr ⟨_, rfl⟩) sh_394 rf_394_2 ?_
        refine go_iload_n dX1_join_106 4 rfl ?_
        obtain ⟨hz10, h⟩ := go_chk_e h
        refine pp_ild dX1_join_107 sh_396 hz10 ?_
        refine go_icmp_ne 162 dX1_join_108 (by decide) (fun hc => ?_) (fun hc => ?_)
        · have h := go_ifn hc h
          refine go_iinc (v := (v4 + 1)) dX1_join_162 6 rfl rfl (by decide) rfl ?_
          show Go w 3 0 0 mtX1_join 165 [(4, .int (v4 + 1)), (6, .int x8), (5, .int x6), (0, .ref 394), (1, .int v1), (2, .int v2), (3, .int v3)] [] (go_mk tx μ) (go_Z w Q)
          refine go_goto 44 dX1_join_165 (by decide) ?_
          cases h
          have hK : Go w 3 0 0 mtX1_join 44 [(0, .ref 394), (1, .int v1), (2, .int v2), (3, .int v3), (4, .int (v4 + 1))] [] (go_mk tx μ) (go_Z w Q) := hK
          exact go_pick [3, 4, 5, 6, 0] rfl hK
        · have h := go_ifp hc h
          refine go_aload_n dX1_join_111 2 rfl ?_
          refine pp_getI dX1_join_112 ff_X1_44 (by decide) sh_394 ?_
          refine go_aload_n dX1_join_115 2 rfl ?_
          refine pp_getR dX1_join_116 ff_X1_18 (Or.inr ⟨_, rfl⟩) sh_394 rf_394_3 ?_
          refine pp_alen (v := 4) dX1_join_119 sh_397 (by decide) ?_
          refine go_icmp_ge 162 dX1_join_120 (by decide) (fun hc => ?_) (fun hc => ?_)
          · have h := go_ifp hc h
            refine go_iinc (v := (v4 + 1)) dX1_join_162 6 rfl rfl (by decide) rfl ?_
            show Go w 3 0 0 mtX1_join 165 [(4, .int (v4 + 1)), (6, .int x8), (5, .int x6), (0, .ref 394), (1, .int v1), (2, .int v2), (3, .int v3)] [] (go_mk tx μ) (go_Z w Q)
            refine go_goto 44 dX1_join_165 (by decide) ?_
            cases h
            have hK : Go w 3 0 0 mtX1_join 44 [(0, .ref 394), (1, .int v1), (2, .int v2), (3, .int v3), (4, .int (v4 + 1))] [] (go_mk tx μ) (go_Z w Q) := hK
            exact go_pick [3, 4, 5, 6, 0] rfl hK
          · have h := go_ifn hc h
            refine go_aload_n dX1_join_123 2 rfl ?_
            refine pp_getR dX1_join_124 ff_X1_18 (Or.inr ⟨_, rfl⟩) sh_394 rf_394_3 ?_
            refine go_aload_n dX1_join_127 2 rfl ?_
            refine pp_getI dX1_join_128 ff_X1_44 (by decide) sh_394 ?_
            refine go_bipush (v := 100) dX1_join_131 (by decide) ?_
            refine go_iload_n dX1_join_133 5 rfl ?_
            refine go_imul dX1_join_134 ?_
            refine go_bipush (v := 10) dX1_join_135 (by decide) ?_
            refine go_iload dX1_join_137 6 rfl ?_
            refine go_imul dX1_join_139 ?_
            refine go_iadd dX1_join_140 ?_
            refine go_iload dX1_join_141 0 rfl ?_
            refine go_iadd dX1_join_143 ?_
            obtain ⟨hz12, h⟩ := go_chk_e h
            obtain ⟨μ11, hμ11, h⟩ := go_let_e h
            refine pp_ist dX1_join_144 sh_397 hz12 hμ11 ?_
            refine go_aload_n dX1_join_145 2 rfl ?_
            refine go_dup dX1_join_146 rfl ?_
            refine pp_getI dX1_join_147 ff_X1_44 (by decide) sh_394 ?_
            refine go_iconst (v := 1) dX1_join_150 (by decide) ?_
            refine go_iadd dX1_join_151 ?_
            obtain ⟨μ13, hμ13, h⟩ := go_let_e h
            refine pp_putI dX1_join_152 ff_X1_44 (Or.inl rfl) sh_394 hμ13 ?_
            refine go_iload_n dX1_join_155 4 rfl ?_
            refine go_iload dX1_join_156 1 rfl ?_
            refine go_iconst (v := (-1)) dX1_join_158 (by decide) ?_
            refine go_ixor dX1_join_159 ?_
            refine go_iand dX1_join_160 ?_
            obtain ⟨x14, hx14, h⟩ := go_let_e h
            refine go_top hx14 ?_
            refine go_istore_n dX1_join_161 (by decide) rfl ?_
            show Go w 3 0 0 mtX1_join 162 [(2, .int x14), (6, .int x8), (5, .int x6), (0, .ref 394), (1, .int v1), (3, .int v3), (4, .int v4)] [] (go_mk tx μ13) (go_Z w Q)
            refine go_iinc (v := (v4 + 1)) dX1_join_162 6 rfl rfl (by decide) rfl ?_
            show Go w 3 0 0 mtX1_join 165 [(4, .int (v4 + 1)), (2, .int x14), (6, .int x8), (5, .int x6), (0, .ref 394), (1, .int v1), (3, .int v3)] [] (go_mk tx μ13) (go_Z w Q)
            refine go_goto 44 dX1_join_165 (by decide) ?_
            cases h
            have hK : Go w 3 0 0 mtX1_join 44 [(0, .ref 394), (1, .int v1), (2, .int x14), (3, .int v3), (4, .int (v4 + 1))] [] (go_mk tx μ13) (go_Z w Q) := hK
            exact go_pick [4, 5, 1, 6, 0] rfl hK
set_option maxRecDepth 20000 in
set_option maxHeartbeats 4000000 in
theorem lqX1_join_36 (w : go_Wd) (tx : Nat) (Q : Option Value → go_M → Prop)  (v1 : Int32)  (v2 : Int32) (v3 : Int32) (μ : PM) (out : (Int32 × Int32 × PM) ⊕ (PM)) (h : lbX1_join_36 v1 v2 v3 μ = some out) (hK : go_out (ggX1_join_36 w tx Q  v1) (eeX1_join_36 w tx Q  v1) out) : ggX1_join_36 w tx Q  v1 (v2, v3, μ) := by
  unfold lbX1_join_36 at h
  show Go w 3 0 0 mtX1_join 36 [(0, .ref 394), (1, .int v1), (2, .int v2), (3, .int v3)] [] (go_mk tx μ) (go_Z w Q)
  refine go_iload_n dX1_join_36 3 rfl ?_
  refine go_iload_n dX1_join_37 1 rfl ?_
  refine go_icmp_ge 174 dX1_join_38 (by decide) (fun hc => ?_) (fun hc => ?_)
  · have h := go_ifp hc h
    cases h
    exact go_vret dX1_join_174 rfl hK
  · have h := go_ifn hc h
    refine go_iconst (v := 0) dX1_join_41 (by decide) ?_
    refine go_istore dX1_join_42 (by decide) rfl ?_
    show Go w 3 0 0 mtX1_join 44 [(4, .int 0), (0, .ref 394), (1, .int v1), (2, .int v2), (3, .int v3)] [] (go_mk tx μ) (go_Z w Q)
    obtain ⟨ρ15, hρ15, h⟩ := go_bind h
    refine go_pick [1, 2, 3, 4, 0] rfl ?_
    refine go_lp (G := ggX1_join_44 w tx Q  v1 v3) (E := eeX1_join_44 w tx Q  v1 v3) (fun s out h hK => lqX1_join_44 w tx Q  v1 v3  s.1 s.2.1 s.2.2 out h hK) go_fuel (v2, 0, μ) ρ15 hρ15 ?_
    rcases ρ15 with e16 | y
    · have h := go_csl h
      show Go w 3 0 0 mtX1_join 168 [(0, .ref 394), (1, .int v1), (2, .int e16.1), (3, .int v3)] [] (go_mk tx e16.2) (go_Z w Q)
      refine go_iinc (v := (v3 + 1)) dX1_join_168 3 rfl rfl (by decide) rfl ?_
      show Go w 3 0 0 mtX1_join 171 [(3, .int (v3 + 1)), (0, .ref 394), (1, .int v1), (2, .int e16.1)] [] (go_mk tx e16.2) (go_Z w Q)
      refine go_goto 36 dX1_join_171 (by decide) ?_
      cases h
      have hK : Go w 3 0 0 mtX1_join 36 [(0, .ref 394), (1, .int v1), (2, .int e16.1), (3, .int (v3 + 1))] [] (go_mk tx e16.2) (go_Z w Q) := hK
      exact go_pick [1, 2, 3, 0] rfl hK
    · have h := go_csr h
      cases h
      exact hK
set_option maxRecDepth 20000 in
set_option maxHeartbeats 4000000 in
theorem cmX1_join (w : go_Wd) (tx : Nat) (Q : Option Value → go_M → Prop) (μ : PM)  (out : PM) (h : fX1_join μ = some out) (hK : Q none (go_mk tx out)) : Go w 3 0 0 mtX1_join 0 [(0, .ref 394)] [] (go_mk tx μ) (go_Z w Q) := by
  unfold fX1_join at h
  refine go_aload_n dX1_join_0 0 rfl ?_
  refine pp_getR dX1_join_1 ff_X1_21 (Or.inl ⟨_, rfl⟩) sh_394 rf_394_0 ?_
  refine pp_getI dX1_join_4 ff_X1_25 (by decide) go_isV_1.1 ?_
  refine go_bipush (v := 8) dX1_join_7 (by decide) ?_
  refine go_mmin dX1_join_9 mm_X1_31 (by decide) (Nat.le_of_ble_eq_true rfl) ?_
  refine go_top (x := (jmin (μ.1 1 16) 8)) rfl ?_
  obtain ⟨x1, hx1, h⟩ := go_let_e h
  refine go_top hx1 ?_
  refine go_istore_n dX1_join_12 (by decide) rfl ?_
  show Go w 3 0 0 mtX1_join 13 [(1, .int x1), (0, .ref 394)] [] (go_mk tx μ) (go_Z w Q)
  refine go_aload_n dX1_join_13 1 rfl ?_
  refine go_iload_n dX1_join_14 0 rfl ?_
  obtain ⟨q2, hq2, h⟩ := go_bind h
  refine pp_callV (as := [.int x1]) (st := []) (rv := none) (μ1 := q2) (st1 := []) dX1_join_15 ll_X1_37 sh_394 (by decide) rfl (ctX1_findJoints  hq2) rfl (Nat.le_of_ble_eq_true rfl) (Nat.le_of_ble_eq_true rfl) (go_Z_up w _) rfl rfl ?_
  refine go_aload_n dX1_join_18 1 rfl ?_
  refine go_iload_n dX1_join_19 0 rfl ?_
  obtain ⟨q3, hq3, h⟩ := go_bind h
  refine pp_callV (as := [.int x1]) (st := []) (rv := none) (μ1 := q3) (st1 := []) dX1_join_20 ll_X1_41 sh_394 (by decide) rfl (ctX1_findMost  hq3) rfl (Nat.le_of_ble_eq_true rfl) (Nat.le_of_ble_eq_true rfl) (go_Z_up w _) rfl rfl ?_
  refine go_aload_n dX1_join_23 1 rfl ?_
  refine go_iconst (v := 0) dX1_join_24 (by decide) ?_
  obtain ⟨μ4, hμ4, h⟩ := go_let_e h
  refine pp_putI dX1_join_25 ff_X1_44 (Or.inl rfl) sh_394 hμ4 ?_
  refine go_iconst (v := 1) dX1_join_28 (by decide) ?_
  refine go_iload_n dX1_join_29 0 rfl ?_
  refine go_ishl dX1_join_30 ?_
  refine go_iconst (v := 1) dX1_join_31 (by decide) ?_
  refine go_isub dX1_join_32 ?_
  obtain ⟨x5, hx5, h⟩ := go_let_e h
  refine go_top hx5 ?_
  refine go_istore_n dX1_join_33 (by decide) rfl ?_
  show Go w 3 0 0 mtX1_join 34 [(2, .int x5), (1, .int x1), (0, .ref 394)] [] (go_mk tx μ4) (go_Z w Q)
  refine go_iconst (v := 0) dX1_join_34 (by decide) ?_
  refine go_istore_n dX1_join_35 (by decide) rfl ?_
  show Go w 3 0 0 mtX1_join 36 [(3, .int 0), (2, .int x5), (1, .int x1), (0, .ref 394)] [] (go_mk tx μ4) (go_Z w Q)
  obtain ⟨ρ17, hρ17, h⟩ := go_bind h
  refine go_pick [3, 2, 1, 0] rfl ?_
  refine go_lp (G := ggX1_join_36 w tx Q  x1) (E := eeX1_join_36 w tx Q  x1) (fun s out h hK => lqX1_join_36 w tx Q  x1  s.1 s.2.1 s.2.2 out h hK) go_fuel (x5, 0, μ4) ρ17 hρ17 ?_
  cases h
  exact hK
theorem ctX1_join {w : go_Wd} {tx : Nat} {μ : PM}  {μ1 : PM}  (h : fX1_join μ = some μ1) : Ct w 3 0 0 mtX1_join [.ref 394] (go_mk tx μ) (fun r' M' => r' = none ∧ M' = go_mk tx μ1) :=
  go_entry rfl (by decide) (Nat.le_of_ble_eq_true rfl) (cmX1_join w tx _ μ  _ h ⟨rfl, rfl⟩)