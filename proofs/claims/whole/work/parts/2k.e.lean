def jjX12_nextToken_26_0 (μ : PM)    : Option ((PM) ⊕ ((PM) ⊕ (PM))) :=
  go_let (pm_wi μ 401 7 ((μ.1 401 7) + 1)) fun μ4 => some (.inl μ4)
def lbX12_nextToken_0    (μ : PM) : Option ((PM) ⊕ ((PM) ⊕ (PM))) :=
  (fX12_byteAt μ (μ.1 401 7)).bind fun q3 => (if q3 = 32 then jjX12_nextToken_26_0 μ else (fX12_byteAt μ (μ.1 401 7)).bind fun q5 => (if q5 = 10 then jjX12_nextToken_26_0 μ else some (.inr (.inl μ))))
def jjX12_nextToken_297 (μ : PM)   (s1 : Int32) : Option (PM) :=
  go_let (pm_wi μ 401 9 s1) fun μ13 => go_let (pm_wi μ13 401 7 ((μ13.1 401 7) + 1)) fun μ14 => some (μ14)
def jjX12_nextToken_272 (μ : PM)  (v1 : Int32)  : Option (PM) :=
  (fX12_byteAt μ (μ.1 401 7)).bind fun q12 => (if q12 = 61 then (if v1 = 60 then jjX12_nextToken_297 μ 4 else jjX12_nextToken_297 μ 5) else some (μ))
def jjX12_nextToken_247 (μ : PM)  (v1 : Int32) (s1 : Int32) : Option (PM) :=
  go_let (pm_wi μ 401 9 s1) fun μ10 => go_let (pm_wi μ10 401 7 ((μ10.1 401 7) + 1)) fun μ11 => (if v1 = 60 then jjX12_nextToken_272 μ11 v1 else (if v1 = 62 then jjX12_nextToken_272 μ11 v1 else some (μ11)))
def jjX12_nextToken_218_168 (μ : PM)   (s1 : Int64) : Option ((PM) ⊕ (PM)) :=
  go_let (pm_wl μ 401 11 s1) fun μ19 => go_let (pm_wi μ19 401 7 ((μ19.1 401 7) + 1)) fun μ20 => some (.inl μ20)
def lbX12_nextToken_168    (μ : PM) : Option ((PM) ⊕ (PM)) :=
  (fX12_byteAt μ (μ.1 401 7)).bind fun q17 => (if (fX12_isLetterByte q17) = 0 then some (.inr (μ)) else (if (lg_cmp ((μ.2 401 11) >>> ((48 : Int32).toInt64 &&& 63)) 0) = 0 then (fX12_byteAt μ (μ.1 401 7)).bind fun q18 => jjX12_nextToken_218_168 μ ((((μ.2 401 11) <<< ((8 : Int32).toInt64 &&& 63)) ||| q18.toInt64)) else jjX12_nextToken_218_168 μ 1152921504606846976))
def jjX12_nextToken_135_85 (μ : PM)   (s1 : Int32) : Option ((PM) ⊕ (PM)) :=
  go_let (pm_wi μ 401 10 s1) fun μ26 => go_let (pm_wi μ26 401 7 ((μ26.1 401 7) + 1)) fun μ27 => some (.inl μ27)
def lbX12_nextToken_85    (μ : PM) : Option ((PM) ⊕ (PM)) :=
  (fX12_byteAt μ (μ.1 401 7)).bind fun q24 => (if (fX12_isFigure q24) = 0 then some (.inr (μ)) else (if (μ.1 401 10) ≤ 99999 then (fX12_byteAt μ (μ.1 401 7)).bind fun q25 => jjX12_nextToken_135_85 μ ((((10 * (μ.1 401 10)) + q25) - 48)) else jjX12_nextToken_135_85 μ ((μ.1 401 10))))
def jjX12_nextToken_26 (μ : PM)    : Option (PM) :=
  go_let (pm_wi μ 401 7 ((μ.1 401 7) + 1)) fun μ2 => ((lp (fun s => lbX12_nextToken_0 s) go_fuel μ2).bind fun ρ6 => go_cs ρ6 (fun e7 => go_let (pm_wi e7 401 8 (e7.1 401 7)) fun μ8 => (fX12_byteAt μ8 (μ8.1 401 7)).bind fun q9 => (if 0 ≤ q9 then (if (fX12_isFigure q9) = 0 then (if (fX12_isLetterByte q9) = 0 then (if (fX12_isSign q9) = 0 then jjX12_nextToken_247 μ8 q9 3 else jjX12_nextToken_247 μ8 q9 q9) else go_let (pm_wi μ8 401 9 2) fun μ15 => go_let (pm_wl μ15 401 11 0) fun μ16 => ((lp (fun s => lbX12_nextToken_168 s) go_fuel μ16).bind fun ρ21 => some ρ21)) else go_let (pm_wi μ8 401 9 1) fun μ22 => go_let (pm_wi μ22 401 10 0) fun μ23 => ((lp (fun s => lbX12_nextToken_85 s) go_fuel μ23).bind fun ρ28 => some ρ28)) else go_let (pm_wi μ8 401 9 0) fun μ29 => some (μ29))) (fun y => some y))
def jjX12_nextToken_218_168_b (μ : PM)   (s1 : Int64) : Option ((PM) ⊕ (PM)) :=
  go_let (pm_wl μ 401 11 s1) fun μ37 => go_let (pm_wi μ37 401 7 ((μ37.1 401 7) + 1)) fun μ38 => some (.inl μ38)
def lbX12_nextToken_168_b    (μ : PM) : Option ((PM) ⊕ (PM)) :=
  (fX12_byteAt μ (μ.1 401 7)).bind fun q35 => (if (fX12_isLetterByte q35) = 0 then some (.inr (μ)) else (if (lg_cmp ((μ.2 401 11) >>> ((48 : Int32).toInt64 &&& 63)) 0) = 0 then (fX12_byteAt μ (μ.1 401 7)).bind fun q36 => jjX12_nextToken_218_168_b μ ((((μ.2 401 11) <<< ((8 : Int32).toInt64 &&& 63)) ||| q36.toInt64)) else jjX12_nextToken_218_168_b μ 1152921504606846976))
def jjX12_nextToken_135_85_b (μ : PM)   (s1 : Int32) : Option ((PM) ⊕ (PM)) :=
  go_let (pm_wi μ 401 10 s1) fun μ44 => go_let (pm_wi μ44 401 7 ((μ44.1 401 7) + 1)) fun μ45 => some (.inl μ45)
def lbX12_nextToken_85_b    (μ : PM) : Option ((PM) ⊕ (PM)) :=
  (fX12_byteAt μ (μ.1 401 7)).bind fun q42 => (if (fX12_isFigure q42) = 0 then some (.inr (μ)) else (if (μ.1 401 10) ≤ 99999 then (fX12_byteAt μ (μ.1 401 7)).bind fun q43 => jjX12_nextToken_135_85_b μ ((((10 * (μ.1 401 10)) + q43) - 48)) else jjX12_nextToken_135_85_b μ ((μ.1 401 10))))
def fX12_nextToken (μ : PM)  : Option (PM) :=
  (fX12_byteAt μ (μ.1 401 7)).bind fun q1 => (if q1 = 32 then jjX12_nextToken_26 μ else (fX12_byteAt μ (μ.1 401 7)).bind fun q30 => (if q30 = 10 then jjX12_nextToken_26 μ else go_let (pm_wi μ 401 8 (μ.1 401 7)) fun μ31 => (fX12_byteAt μ31 (μ31.1 401 7)).bind fun q32 => (if 0 ≤ q32 then (if (fX12_isFigure q32) = 0 then (if (fX12_isLetterByte q32) = 0 then (if (fX12_isSign q32) = 0 then jjX12_nextToken_247 μ31 q32 3 else jjX12_nextToken_247 μ31 q32 q32) else go_let (pm_wi μ31 401 9 2) fun μ33 => go_let (pm_wl μ33 401 11 0) fun μ34 => ((lp (fun s => lbX12_nextToken_168_b s) go_fuel μ34).bind fun ρ39 => some ρ39)) else go_let (pm_wi μ31 401 9 1) fun μ40 => go_let (pm_wi μ40 401 10 0) fun μ41 => ((lp (fun s => lbX12_nextToken_85_b s) go_fuel μ41).bind fun ρ46 => some ρ46)) else go_let (pm_wi μ31 401 9 0) fun μ47 => some (μ47))))
def ggX12_nextToken_0 (w : go_Wd) (tx : Nat) (Q : Option Value → go_M → Prop)   (s : PM) : Prop := Go w 1 0 0 mtX12_nextToken 0 [(0, .ref 401)] [] (go_mk tx s) (go_Z w Q)
def ggX12_nextToken_168 (w : go_Wd) (tx : Nat) (Q : Option Value → go_M → Prop)   (s : PM) : Prop := Go w 1 0 0 mtX12_nextToken 168 [(0, .ref 401)] [] (go_mk tx s) (go_Z w Q)
def ggX12_nextToken_85 (w : go_Wd) (tx : Nat) (Q : Option Value → go_M → Prop)   (s : PM) : Prop := Go w 1 0 0 mtX12_nextToken 85 [(0, .ref 401)] [] (go_mk tx s) (go_Z w Q)
def ggX12_nextToken_168_b (w : go_Wd) (tx : Nat) (Q : Option Value → go_M → Prop)   (s : PM) : Prop := Go w 1 0 0 mtX12_nextToken 168 [(0, .ref 401)] [] (go_mk tx s) (go_Z w Q)
def ggX12_nextToken_85_b (w : go_Wd) (tx : Nat) (Q : Option Value → go_M → Prop)   (s : PM) : Prop := Go w 1 0 0 mtX12_nextToken 85 [(0, .ref 401)] [] (go_mk tx s) (go_Z w Q)
def eeX12_nextToken_0 (w : go_Wd) (tx : Nat) (Q : Option Value → go_M → Prop)   : (PM) ⊕ (PM) → Prop
  | .inl e => Go w 1 0 0 mtX12_nextToken 39 [(0, .ref 401)] [] (go_mk tx e) (go_Z w Q)
  | .inr y => Q none (go_mk tx y)
def eeX12_nextToken_168 (w : go_Wd) (tx : Nat) (Q : Option Value → go_M → Prop)   (y : PM) : Prop := Q none (go_mk tx y)
def eeX12_nextToken_85 (w : go_Wd) (tx : Nat) (Q : Option Value → go_M → Prop)   (y : PM) : Prop := Q none (go_mk tx y)
def eeX12_nextToken_168_b (w : go_Wd) (tx : Nat) (Q : Option Value → go_M → Prop)   (y : PM) : Prop := Q none (go_mk tx y)
def eeX12_nextToken_85_b (w : go_Wd) (tx : Nat) (Q : Option Value → go_M → Prop)   (y : PM) : Prop := Q none (go_mk tx y)
set_option maxRecDepth 20000 in
set_option maxHeartbeats 4000000 in
theorem jqX12_nextToken_26_0 (w : go_Wd) (tx : Nat) (Q : Option Value → go_M → Prop) (μ : PM)      (out : (PM) ⊕ ((PM) ⊕ (PM))) (h : jjX12_nextToken_26_0 μ   = some out) (hK : go_out (ggX12_nextToken_0 w tx Q  ) (eeX12_nextToken_0 w tx Q  ) out) : Go w 1 0 0 mtX12_nextToken 26 [(0, .ref 401)] [] (go_mk tx μ) (go_Z w Q) := by
  unfold jjX12_nextToken_26_0 at h
  refine go_aload_n dX12_nextToken_26 0 rfl ?_
  refine go_dup dX12_nextToken_27 rfl ?_
  refine pp_getI dX12_nextToken_28 ff_X12_93 (by decide) sh_401 ?_
  refine go_iconst (v := 1) dX12_nextToken_31 (by decide) ?_
  refine go_iadd dX12_nextToken_32 ?_
  obtain ⟨μ4, hμ4, h⟩ := go_let_e h
  refine pp_putI dX12_nextToken_33 ff_X12_93 (Or.inl rfl) sh_401 hμ4 ?_
  refine go_goto 0 dX12_nextToken_36 (by decide) ?_
  cases h
  have hK : Go w 1 0 0 mtX12_nextToken 0 [(0, .ref 401)] [] (go_mk tx μ4) (go_Z w Q) := hK
  exact go_pick [0] rfl hK
set_option maxRecDepth 20000 in
set_option maxHeartbeats 4000000 in
theorem lqX12_nextToken_0 (w : go_Wd) (tx : Nat) (Q : Option Value → go_M → Prop)     (μ : PM) (out : (PM) ⊕ ((PM) ⊕ (PM))) (h : lbX12_nextToken_0  μ = some out) (hK : go_out (ggX12_nextToken_0 w tx Q  ) (eeX12_nextToken_0 w tx Q  ) out) : ggX12_nextToken_0 w tx Q   μ := by
  unfold lbX12_nextToken_0 at h
  show Go w 1 0 0 mtX12_nextToken 0 [(0, .ref 401)] [] (go_mk tx μ) (go_Z w Q)
  refine go_aload_n dX12_nextToken_0 0 rfl ?_
  refine go_aload_n dX12_nextToken_1 0 rfl ?_
  refine pp_getI dX12_nextToken_2 ff_X12_93 (by decide) sh_401 ?_
  obtain ⟨q3, hq3, h⟩ := go_bind h
  refine pp_callV (as := [.int (μ.1 401 7)]) (st := []) (rv := (some (.int q3))) (μ1 := μ) (st1 := [.int q3]) dX12_nextToken_5 ll_X12_96 sh_401 (by decide) rfl (ctX12_byteAt  hq3) rfl (Nat.le_of_ble_eq_true rfl) (Nat.le_of_ble_eq_true rfl) (go_Z_up w _) rfl rfl ?_
  refine go_bipush (v := 32) dX12_nextToken_8 (by decide) ?_
  refine go_icmp_eq 26 dX12_nextToken_10 (by decide) (fun hc => ?_) (fun hc => ?_)
  · have h := go_ifp hc h
    refine go_pick [0] rfl ?_
    exact jqX12_nextToken_26_0 w tx Q μ      _ h hK
  · have h := go_ifn hc h
    refine go_aload_n dX12_nextToken_13 0 rfl ?_
    refine go_aload_n dX12_nextToken_14 0 rfl ?_
    refine pp_getI dX12_nextToken_15 ff_X12_93 (by decide) sh_401 ?_
    obtain ⟨q5, hq5, h⟩ := go_bind h
    refine pp_callV (as := [.int (μ.1 401 7)]) (st := []) (rv := (some (.int q5))) (μ1 := μ) (st1 := [.int q5]) dX12_nextToken_18 ll_X12_96 sh_401 (by decide) rfl (ctX12_byteAt  hq5) rfl (Nat.le_of_ble_eq_true rfl) (Nat.le_of_ble_eq_true rfl) (go_Z_up w _) rfl rfl ?_
    refine go_bipush (v := 10) dX12_nextToken_21 (by decide) ?_
    refine go_icmp_ne 39 dX12_nextToken_23 (by decide) (fun hc => ?_) (fun hc => ?_)
    · have h := go_ifn hc h
      cases h
      have hK : Go w 1 0 0 mtX12_nextToken 39 [(0, .ref 401)] [] (go_mk tx μ) (go_Z w Q) := hK
      exact go_pick [0] rfl hK
    · have h := go_ifp hc h
      refine go_pick [0] rfl ?_
      exact jqX12_nextToken_26_0 w tx Q μ      _ h hK
set_option maxRecDepth 20000 in
set_option maxHeartbeats 4000000 in
theorem jqX12_nextToken_297 (w : go_Wd) (tx : Nat) (Q : Option Value → go_M → Prop) (μ : PM)    (s1 : Int32)  (out : PM) (h : jjX12_nextToken_297 μ  s1 = some out) (hK : Q none (go_mk tx out)) : Go w 1 0 0 mtX12_nextToken 297 [(0, .ref 401)] [.int s1, .ref 401] (go_mk tx μ) (go_Z w Q) := by
  unfold jjX12_nextToken_297 at h
  obtain ⟨μ13, hμ13, h⟩ := go_let_e h
  refine pp_putI dX12_nextToken_297 ff_X12_102 (Or.inl rfl) sh_401 hμ13 ?_
  refine go_aload_n dX12_nextToken_300 0 rfl ?_
  refine go_dup dX12_nextToken_301 rfl ?_
  refine pp_getI dX12_nextToken_302 ff_X12_93 (by decide) sh_401 ?_
  refine go_iconst (v := 1) dX12_nextToken_305 (by decide) ?_
  refine go_iadd dX12_nextToken_306 ?_
  obtain ⟨μ14, hμ14, h⟩ := go_let_e h
  refine pp_putI dX12_nextToken_307 ff_X12_93 (Or.inl rfl) sh_401 hμ14 ?_
  cases h
  exact go_vret dX12_nextToken_310 rfl hK
set_option maxRecDepth 20000 in
set_option maxHeartbeats 4000000 in
theorem jqX12_nextToken_272 (w : go_Wd) (tx : Nat) (Q : Option Value → go_M → Prop) (μ : PM)  (v1 : Int32)    (out : PM) (h : jjX12_nextToken_272 μ v1  = some out) (hK : Q none (go_mk tx out)) : Go w 1 0 0 mtX12_nextToken 272 [(0, .ref 401), (1, .int v1)] [] (go_mk tx μ) (go_Z w Q) := by
  unfold jjX12_nextToken_272 at h
  refine go_aload_n dX12_nextToken_272 0 rfl ?_
  refine go_aload_n dX12_nextToken_273 0 rfl ?_
  refine pp_getI dX12_nextToken_274 ff_X12_93 (by decide) sh_401 ?_
  obtain ⟨q12, hq12, h⟩ := go_bind h
  refine pp_callV (as := [.int (μ.1 401 7)]) (st := []) (rv := (some (.int q12))) (μ1 := μ) (st1 := [.int q12]) dX12_nextToken_277 ll_X12_96 sh_401 (by decide) rfl (ctX12_byteAt  hq12) rfl (Nat.le_of_ble_eq_true rfl) (Nat.le_of_ble_eq_true rfl) (go_Z_up w _) rfl rfl ?_
  refine go_bipush (v := 61) dX12_nextToken_280 (by decide) ?_
  refine go_icmp_ne 310 dX12_nextToken_282 (by decide) (fun hc => ?_) (fun hc => ?_)
  · have h := go_ifn hc h
    cases h
    exact go_vret dX12_nextToken_310 rfl hK
  · have h := go_ifp hc h
    refine go_aload_n dX12_nextToken_285 0 rfl ?_
    refine go_iload_n dX12_nextToken_286 1 rfl ?_
    refine go_bipush (v := 60) dX12_nextToken_287 (by decide) ?_
    refine go_icmp_ne 296 dX12_nextToken_289 (by decide) (fun hc => ?_) (fun hc => ?_)
    · have h := go_ifn hc h
      refine go_iconst (v := 5) dX12_nextToken_296 (by decide) ?_
      refine go_pick [0] rfl ?_
      exact jqX12_nextToken_297 w tx Q μ    5  _ h hK
    · have h := go_ifp hc h
      refine go_iconst (v := 4) dX12_nextToken_292 (by decide) ?_
      refine go_goto 297 dX12_nextToken_293 (by decide) ?_
      refine go_pick [0] rfl ?_
      exact jqX12_nextToken_297 w tx Q μ    4  _ h hK
set_option maxRecDepth 20000 in
set_option maxHeartbeats 4000000 in
theorem jqX12_nextToken_247 (w : go_Wd) (tx : Nat) (Q : Option Value → go_M → Prop) (μ : PM)  (v1 : Int32)  (s1 : Int32)  (out : PM) (h : jjX12_nextToken_247 μ v1 s1 = some out) (hK : Q none (go_mk tx out)) : Go w 1 0 0 mtX12_nextToken 247 [(0, .ref 401), (1, .int v1)] [.int s1, .ref 401] (go_mk tx μ) (go_Z w Q) := by
  unfold jjX12_nextToken_247 at h
  obtain ⟨μ10, hμ10, h⟩ := go_let_e h
  refine pp_putI dX12_nextToken_247 ff_X12_102 (Or.inl rfl) sh_401 hμ10 ?_
  refine go_aload_n dX12_nextToken_250 0 rfl ?_
  refine go_dup dX12_nextToken_251 rfl ?_
  refine pp_getI dX12_nextToken_252 ff_X12_93 (by decide) sh_401 ?_
  refine go_iconst (v := 1) dX12_nextToken_255 (by decide) ?_
  refine go_iadd dX12_nextToken_256 ?_
  obtain ⟨μ11, hμ11, h⟩ := go_let_e h
  refine pp_putI dX12_nextToken_257 ff_X12_93 (Or.inl rfl) sh_401 hμ11 ?_
  refine go_iload_n dX12_nextToken_260 1 rfl ?_
  refine go_bipush (v := 60) dX12_nextToken_261 (by decide) ?_
  refine go_icmp_eq 272 dX12_nextToken_263 (by decide) (fun hc => ?_) (fun hc => ?_)
  · have h := go_ifp hc h
    refine go_pick [0, 1] rfl ?_
    exact jqX12_nextToken_272 w tx Q μ11  v1    _ h hK
  · have h := go_ifn hc h
    refine go_iload_n dX12_nextToken_266 1 rfl ?_
    refine go_bipush (v := 62) dX12_nextToken_267 (by decide) ?_
    refine go_icmp_ne 310 dX12_nextToken_269 (by decide) (fun hc => ?_) (fun hc => ?_)
    · have h := go_ifn hc h
      cases h
      exact go_vret dX12_nextToken_310 rfl hK
    · have h := go_ifp hc h
      refine go_pick [0, 1] rfl ?_
      exact jqX12_nextToken_272 w tx Q μ11  v1    _ h hK
set_option maxRecDepth 20000 in
set_option maxHeartbeats 4000000 in
theorem jqX12_nextToken_218_168 (w : go_Wd) (tx : Nat) (Q : Option Value → go_M → Prop) (μ : PM)    (s1 : Int64)  (out : (PM) ⊕ (PM)) (h : jjX12_nextToken_218_168 μ  s1 = some out) (hK : go_out (ggX12_nextToken_168 w tx Q  ) (eeX12_nextToken_168 w tx Q  ) out) : Go w 1 0 0 mtX12_nextToken 218 [(0, .ref 401)] [.long s1, .ref 401] (go_mk tx μ) (go_Z w Q) := by
  unfold jjX12_nextToken_218_168 at h
  obtain ⟨μ19, hμ19, h⟩ := go_let_e h
  refine pp_putL dX12_nextToken_218 ff_X12_114 sh_401 hμ19 ?_
  refine go_aload_n dX12_nextToken_221 0 rfl ?_
  refine go_dup dX12_nextToken_222 rfl ?_
  refine pp_getI dX12_nextToken_223 ff_X12_93 (by decide) sh_401 ?_
  refine go_iconst (v := 1) dX12_nextToken_226 (by decide) ?_
  refine go_iadd dX12_nextToken_227 ?_
  obtain ⟨μ20, hμ20, h⟩ := go_let_e h
  refine pp_putI dX12_nextToken_228 ff_X12_93 (Or.inl rfl) sh_401 hμ20 ?_
  refine go_goto 168 dX12_nextToken_231 (by decide) ?_
  cases h
  have hK : Go w 1 0 0 mtX12_nextToken 168 [(0, .ref 401)] [] (go_mk tx μ20) (go_Z w Q) := hK
  exact go_pick [0] rfl hK
set_option maxRecDepth 20000 in
set_option maxHeartbeats 4000000 in
theorem lqX12_nextToken_168 (w : go_Wd) (tx : Nat) (Q : Option Value → go_M → Prop)     (μ : PM) (out : (PM) ⊕ (PM)) (h : lbX12_nextToken_168  μ = some out) (hK : go_out (ggX12_nextToken_168 w tx Q  ) (eeX12_nextToken_168 w tx Q  ) out) : ggX12_nextToken_168 w tx Q   μ := by
  unfold lbX12_nextToken_168 at h
  show Go w 1 0 0 mtX12_nextToken 168 [(0, .ref 401)] [] (go_mk tx μ) (go_Z w Q)
  refine go_aload_n dX12_nextToken_168 0 rfl ?_
  refine go_aload_n dX12_nextToken_169 0 rfl ?_
  refine pp_getI dX12_nextToken_170 ff_X12_93 (by decide) sh_401 ?_
  obtain ⟨q17, hq17, h⟩ := go_bind h
  refine pp_callV (as := [.int (μ.1 401 7)]) (st := []) (rv := (some (.int q17))) (μ1 := μ) (st1 := [.int q17]) dX12_nextToken_173 ll_X12_96 sh_401 (by decide) rfl (ctX12_byteAt  hq17) rfl (Nat.le_of_ble_eq_true rfl) (Nat.le_of_ble_eq_true rfl) (go_Z_up w _) rfl rfl ?_
  refine pp_callS (as := [.int q17]) (st := []) (rv := (some (.int (fX12_isLetterByte q17)))) (μ1 := μ) (st1 := [.int (fX12_isLetterByte q17)]) dX12_nextToken_176 ll_X12_111 (ctX12_isLetterByte  rfl) rfl (Nat.le_of_ble_eq_true rfl) (Nat.le_of_ble_eq_true rfl) (go_Z_up w _) rfl rfl ?_
  refine go_if_eq 310 dX12_nextToken_179 (by decide) (fun hc => ?_) (fun hc => ?_)
  · have h := go_ifp hc h
    cases h
    exact go_vret dX12_nextToken_310 rfl hK
  · have h := go_ifn hc h
    refine go_aload_n dX12_nextToken_182 0 rfl ?_
    refine go_aload_n dX12_nextToken_183 0 rfl ?_
    refine pp_getL dX12_nextToken_184 ff_X12_114 sh_401 ?_
    refine go_bipush (v := 48) dX12_nextToken_187 (by decide) ?_
    refine go_lshr dX12_nextToken_189 ?_
    refine go_lconst (v := 0) dX12_nextToken_190 (by decide) ?_
    refine go_lcmp dX12_nextToken_191 ?_
    refine go_if_eq 201 dX12_nextToken_192 (by decide) (fun hc => ?_) (fun hc => ?_)
    · have h := go_ifp hc h
      refine go_aload_n dX12_nextToken_201 0 rfl ?_
      refine pp_getL dX12_nextToken_202 ff_X12_114 sh_401 ?_
      refine go_bipush (v := 8) dX12_nextToken_205 (by decide) ?_
      refine go_lshl dX12_nextToken_207 ?_
      refine go_aload_n dX12_nextToken_208 0 rfl ?_
      refine go_aload_n dX12_nextToken_209 0 rfl ?_
      refine pp_getI dX12_nextToken_210 ff_X12_93 (by decide) sh_401 ?_
      obtain ⟨q18, hq18, h⟩ := go_bind h
      refine pp_callV (as := [.int (μ.1 401 7)]) (st := [.long ((μ.2 401 11) <<< ((8 : Int32).toInt64 &&& 63)), .ref 401]) (rv := (some (.int q18))) (μ1 := μ) (st1 := [.int q18, .long ((μ.2 401 11) <<< ((8 : Int32).toInt64 &&& 63)), .ref 401]) dX12_nextToken_213 ll_X12_96 sh_401 (by decide) rfl (ctX12_byteAt  hq18) rfl (Nat.le_of_ble_eq_true rfl) (Nat.le_of_ble_eq_true rfl) (go_Z_up w _) rfl rfl ?_
      refine go_i2l dX12_nextToken_216 ?_
      refine go_lor dX12_nextToken_217 ?_
      refine go_pick [0] rfl ?_
      exact jqX12_nextToken_218_168 w tx Q μ    ((((μ.2 401 11) <<< ((8 : Int32).toInt64 &&& 63)) ||| q18.toInt64))  _ h hK
    · have h := go_ifn hc h
      refine go_ldc2 dX12_nextToken_195 kl_X12_118 ?_
      refine go_goto 218 dX12_nextToken_198 (by decide) ?_
      refine go_pick [0] rfl ?_
      exact jqX12_nextToken_218_168 w tx Q μ    1152921504606846976  _ h hK
set_option maxRecDepth 20000 in
set_option maxHeartbeats 4000000 in
theorem jqX12_nextToken_135_85 (w : go_Wd) (tx : Nat) (Q : Option Value → go_M → Prop) (μ : PM)    (s1 : Int32)  (out : (PM) ⊕ (PM)) (h : jjX12_nextToken_135_85 μ  s1 = some out) (hK : go_out (ggX12_nextToken_85 w tx Q  ) (eeX12_nextToken_85 w tx Q  ) out) : Go w 1 0 0 mtX12_nextToken 135 [(0, .ref 401)] [.int s1, .ref 401] (go_mk tx μ) (go_Z w Q) := by
  unfold jjX12_nextToken_135_85 at h
  obtain ⟨μ26, hμ26, h⟩ := go_let_e h
  refine pp_putI dX12_nextToken_135 ff_X12_108 (Or.inl rfl) sh_401 hμ26 ?_
  refine go_aload_n dX12_nextToken_138 0 rfl ?_
  refine go_dup dX12_nextToken_139 rfl ?_
  refine pp_getI dX12_nextToken_140 ff_X12_93 (by decide) sh_401 ?_
  refine go_iconst (v := 1) dX12_nextToken_143 (by decide) ?_
  refine go_iadd dX12_nextToken_144 ?_
  obtain ⟨μ27, hμ27, h⟩ := go_let_e h
  refine pp_putI dX12_nextToken_145 ff_X12_93 (Or.inl rfl) sh_401 hμ27 ?_
  refine go_goto 85 dX12_nextToken_148 (by decide) ?_
  cases h
  have hK : Go w 1 0 0 mtX12_nextToken 85 [(0, .ref 401)] [] (go_mk tx μ27) (go_Z w Q) := hK
  exact go_pick [0] rfl hK
set_option maxRecDepth 20000 in
set_option maxHeartbeats 4000000 in
theorem lqX12_nextToken_85 (w : go_Wd) (tx : Nat) (Q : Option Value → go_M → Prop)     (μ : PM) (out : (PM) ⊕ (PM)) (h : lbX12_nextToken_85  μ = some out) (hK : go_out (ggX12_nextToken_85 w tx Q  ) (eeX12_nextToken_85 w tx Q  ) out) : ggX12_nextToken_85 w tx Q   μ := by
  unfold lbX12_nextToken_85 at h
  show Go w 1 0 0 mtX12_nextToken 85 [(0, .ref 401)] [] (go_mk tx μ) (go_Z w Q)
  refine go_aload_n dX12_nextToken_85 0 rfl ?_
  refine go_aload_n dX12_nextToken_86 0 rfl ?_
  refine pp_getI dX12_nextToken_87 ff_X12_93 (by decide) sh_401 ?_
  obtain ⟨q24, hq24, h⟩ := go_bind h
  refine pp_callV (as := [.int (μ.1 401 7)]) (st := []) (rv := (some (.int q24))) (μ1 := μ) (st1 := [.int q24]) dX12_nextToken_90 ll_X12_96 sh_401 (by decide) rfl (ctX12_byteAt  hq24) rfl (Nat.le_of_ble_eq_true rfl) (Nat.le_of_ble_eq_true rfl) (go_Z_up w _) rfl rfl ?_
  refine pp_callS (as := [.int q24]) (st := []) (rv := (some (.int (fX12_isFigure q24)))) (μ1 := μ) (st1 := [.int (fX12_isFigure q24)]) dX12_nextToken_93 ll_X12_105 (ctX12_isFigure  rfl) rfl (Nat.le_of_ble_eq_true rfl) (Nat.le_of_ble_eq_true rfl) (go_Z_up w _) rfl rfl ?_
  refine go_if_eq 310 dX12_nextToken_96 (by decide) (fun hc => ?_) (fun hc => ?_)
  · have h := go_ifp hc h
    cases h
    exact go_vret dX12_nextToken_310 rfl hK
  · have h := go_ifn hc h
    refine go_aload_n dX12_nextToken_99 0 rfl ?_
    refine go_aload_n dX12_nextToken_100 0 rfl ?_
    refine pp_getI dX12_nextToken_101 ff_X12_108 (by decide) sh_401 ?_
    refine go_ldc dX12_nextToken_104 kk_X12_67 ?_
    refine go_icmp_le 116 dX12_nextToken_106 (by decide) (fun hc => ?_) (fun hc => ?_)
    · have h := go_ifp hc h
      refine go_bipush (v := 10) dX12_nextToken_116 (by decide) ?_
      refine go_aload_n dX12_nextToken_118 0 rfl ?_
      refine pp_getI dX12_nextToken_119 ff_X12_108 (by decide) sh_401 ?_
      refine go_imul dX12_nextToken_122 ?_
      refine go_aload_n dX12_nextToken_123 0 rfl ?_
      refine go_aload_n dX12_nextToken_124 0 rfl ?_
      refine pp_getI dX12_nextToken_125 ff_X12_93 (by decide) sh_401 ?_
      obtain ⟨q25, hq25, h⟩ := go_bind h
      refine pp_callV (as := [.int (μ.1 401 7)]) (st := [.int (10 * (μ.1 401 10)), .ref 401]) (rv := (some (.int q25))) (μ1 := μ) (st1 := [.int q25, .int (10 * (μ.1 401 10)), .ref 401]) dX12_nextToken_128 ll_X12_96 sh_401 (by decide) rfl (ctX12_byteAt  hq25) rfl (Nat.le_of_ble_eq_true rfl) (Nat.le_of_ble_eq_true rfl) (go_Z_up w _) rfl rfl ?_
      refine go_iadd dX12_nextToken_131 ?_
      refine go_bipush (v := 48) dX12_nextToken_132 (by decide) ?_
      refine go_isub dX12_nextToken_134 ?_
      refine go_pick [0] rfl ?_
      exact jqX12_nextToken_135_85 w tx Q μ    ((((10 * (μ.1 401 10)) + q25) - 48))  _ h hK
    · have h := go_ifn hc h
      refine go_aload_n dX12_nextToken_109 0 rfl ?_
      refine pp_getI dX12_nextToken_110 ff_X12_108 (by decide) sh_401 ?_
      refine go_goto 135 dX12_nextToken_113 (by decide) ?_
      refine go_pick [0] rfl ?_
      exact jqX12_nextToken_135_85 w tx Q μ    ((μ.1 401 10))  _ h hK
set_option maxRecDepth 20000 in
set_option maxHeartbeats 4000000 in
theorem jqX12_nextToken_26 (w : go_Wd) (tx : Nat) (Q : Option Value → go_M → Prop) (μ : PM)      (out : PM) (h : jjX12_nextToken_26 μ   = some out) (hK : Q none (go_mk tx out)) : Go w 1 0 0 mtX12_nextToken 26 [(0, .ref 401)] [] (go_mk tx μ) (go_Z w Q) := by
  unfold jjX12_nextToken_26 at h
  refine go_aload_n dX12_nextToken_26 0 rfl ?_
  refine go_dup dX12_nextToken_27 rfl ?_
  refine pp_getI dX12_nextToken_28 ff_X12_93 (by decide) sh_401 ?_
  refine go_iconst (v := 1) dX12_nextToken_31 (by decide) ?_
  refine go_iadd dX12_nextToken_32 ?_
  obtain ⟨μ2, hμ2, h⟩ := go_let_e h
  refine pp_putI dX12_nextToken_33 ff_X12_93 (Or.inl rfl) sh_401 hμ2 ?_
  refine go_goto 0 dX12_nextToken_36 (by decide) ?_
  obtain ⟨ρ6, hρ6, h⟩ := go_bind h
  refine go_pick [0] rfl ?_
  refine go_lp (G := ggX12_nextToken_0 w tx Q  ) (E := eeX12_nextToken_0 w tx Q  ) (fun s out h hK => lqX12_nextToken_0 w tx Q    s out h hK) go_fuel μ2 ρ6 hρ6 ?_
  rcases ρ6 with e7 | y
  · have h := go_csl h
    show Go w 1 0 0 mtX12_nextToken 39 [(0, .ref 401)] [] (go_mk tx e7) (go_Z w Q)
    refine go_aload_n dX12_nextToken_39 0 rfl ?_
    refine go_aload_n dX12_nextToken_40 0 rfl ?_
    refine pp_getI dX12_nextToken_41 ff_X12_93 (by decide) sh_401 ?_
    obtain ⟨μ8, hμ8, h⟩ := go_let_e h
    refine pp_putI dX12_nextToken_44 ff_X12_99 (Or.inl rfl) sh_401 hμ8 ?_
    refine go_aload_n dX12_nextToken_47 0 rfl ?_
    refine go_aload_n dX12_nextToken_48 0 rfl ?_
    refine pp_getI dX12_nextToken_49 ff_X12_93 (by decide) sh_401 ?_
    obtain ⟨q9, hq9, h⟩ := go_bind h
    refine pp_callV (as := [.int (μ8.1 401 7)]) (st := []) (rv := (some (.int q9))) (μ1 := μ8) (st1 := [.int q9]) dX12_nextToken_52 ll_X12_96 sh_401 (by decide) rfl (ctX12_byteAt  hq9) rfl (Nat.le_of_ble_eq_true rfl) (Nat.le_of_ble_eq_true rfl) (go_Z_up w _) rfl rfl ?_
    refine go_istore_n dX12_nextToken_55 (by decide) rfl ?_
    show Go w 1 0 0 mtX12_nextToken 56 [(1, .int q9), (0, .ref 401)] [] (go_mk tx μ8) (go_Z w Q)
    refine go_iload_n dX12_nextToken_56 0 rfl ?_
    refine go_if_ge 68 dX12_nextToken_57 (by decide) (fun hc => ?_) (fun hc => ?_)
    · have h := go_ifp hc h
      refine go_iload_n dX12_nextToken_68 0 rfl ?_
      refine pp_callS (as := [.int q9]) (st := []) (rv := (some (.int (fX12_isFigure q9)))) (μ1 := μ8) (st1 := [.int (fX12_isFigure q9)]) dX12_nextToken_69 ll_X12_105 (ctX12_isFigure  rfl) rfl (Nat.le_of_ble_eq_true rfl) (Nat.le_of_ble_eq_true rfl) (go_Z_up w _) rfl rfl ?_
      refine go_if_eq 151 dX12_nextToken_72 (by decide) (fun hc => ?_) (fun hc => ?_)
      · have h := go_ifp hc h
        refine go_iload_n dX12_nextToken_151 0 rfl ?_
        refine pp_callS (as := [.int q9]) (st := []) (rv := (some (.int (fX12_isLetterByte q9)))) (μ1 := μ8) (st1 := [.int (fX12_isLetterByte q9)]) dX12_nextToken_152 ll_X12_111 (ctX12_isLetterByte  rfl) rfl (Nat.le_of_ble_eq_true rfl) (Nat.le_of_ble_eq_true rfl) (go_Z_up w _) rfl rfl ?_
        refine go_if_eq 234 dX12_nextToken_155 (by decide) (fun hc => ?_) (fun hc => ?_)
        · have h := go_ifp hc h
          refine go_aload_n dX12_nextToken_234 1 rfl ?_
          refine go_iload_n dX12_nextToken_235 0 rfl ?_
          refine pp_callS (as := [.int q9]) (st := [.ref 401]) (rv := (some (.int (fX12_isSign q9)))) (μ1 := μ8) (st1 := [.int (fX12_isSign q9), .ref 401]) dX12_nextToken_236 ll_X12_120 (ctX12_isSign  rfl) rfl (Nat.le_of_ble_eq_true rfl) (Nat.le_of_ble_eq_true rfl) (go_Z_up w _) rfl rfl ?_
          refine go_if_eq 246 dX12_nextToken_239 (by decide) (fun hc => ?_) (fun hc => ?_)
          · have h := go_ifp hc h
            refine go_iconst (v := 3) dX12_nextToken_246 (by decide) ?_
            refine go_pick [1, 0] rfl ?_
            exact jqX12_nextToken_247 w tx Q μ8  q9  3  _ h hK
          · have h := go_ifn hc h
            refine go_iload_n dX12_nextToken_242 0 rfl ?_
            refine go_goto 247 dX12_nextToken_243 (by decide) ?_
            refine go_pick [1, 0] rfl ?_
            exact jqX12_nextToken_247 w tx Q μ8  q9  q9  _ h hK
        · have h := go_ifn hc h
          refine go_aload_n dX12_nextToken_158 1 rfl ?_
          refine go_iconst (v := 2) dX12_nextToken_159 (by decide) ?_
          obtain ⟨μ15, hμ15, h⟩ := go_let_e h
          refine pp_putI dX12_nextToken_160 ff_X12_102 (Or.inl rfl) sh_401 hμ15 ?_
          refine go_aload_n dX12_nextToken_163 1 rfl ?_
          refine go_lconst (v := 0) dX12_nextToken_164 (by decide) ?_
          obtain ⟨μ16, hμ16, h⟩ := go_let_e h
          refine pp_putL dX12_nextToken_165 ff_X12_114 sh_401 hμ16 ?_
          obtain ⟨ρ21, hρ21, h⟩ := go_bind h
          refine go_pick [1] rfl ?_
          refine go_lp (G := ggX12_nextToken_168 w tx Q  ) (E := eeX12_nextToken_168 w tx Q  ) (fun s out h hK => lqX12_nextToken_168 w tx Q    s out h hK) go_fuel μ16 ρ21 hρ21 ?_
          cases h
          exact hK
      · have h := go_ifn hc h
        refine go_aload_n dX12_nextToken_75 1 rfl ?_
        refine go_iconst (v := 1) dX12_nextToken_76 (by decide) ?_
        obtain ⟨μ22, hμ22, h⟩ := go_let_e h
        refine pp_putI dX12_nextToken_77 ff_X12_102 (Or.inl rfl) sh_401 hμ22 ?_
        refine go_aload_n dX12_nextToken_80 1 rfl ?_
        refine go_iconst (v := 0) dX12_nextToken_81 (by decide) ?_
        obtain ⟨μ23, hμ23, h⟩ := go_let_e h
        refine pp_putI dX12_nextToken_82 ff_X12_108 (Or.inl rfl) sh_401 hμ23 ?_
        obtain ⟨ρ28, hρ28, h⟩ := go_bind h
        refine go_pick [1] rfl ?_
        refine go_lp (G := ggX12_nextToken_85 w tx Q  ) (E := eeX12_nextToken_85 w tx Q  ) (fun s out h hK => lqX12_nextToken_85 w tx Q    s out h hK) go_fuel μ23 ρ28 hρ28 ?_
        cases h
        exact hK
    · have h := go_ifn hc h
      refine go_aload_n dX12_nextToken_60 1 rfl ?_
      refine go_iconst (v := 0) dX12_nextToken_61 (by decide) ?_
      obtain ⟨μ29, hμ29, h⟩ := go_let_e h
      refine pp_putI dX12_nextToken_62 ff_X12_102 (Or.inl rfl) sh_401 hμ29 ?_
      refine go_goto 310 dX12_nextToken_65 (by decide) ?_
      cases h
      exact go_vret dX12_nextToken_310 rfl hK
  · have h := go_csr h
    cases h
    exact hK
set_option maxRecDepth 20000 in
set_option maxHeartbeats 4000000 in
theorem jqX12_nextToken_218_168_b (w : go_Wd) (tx : Nat) (Q : Option Value → go_M → Prop) (μ : PM)    (s1 : Int64)  (out : (PM) ⊕ (PM)) (h : jjX12_nextToken_218_168_b μ  s1 = some out) (hK : go_out (ggX12_nextToken_168_b w tx Q  ) (eeX12_nextToken_168_b w tx Q  ) out) : Go w 1 0 0 mtX12_nextToken 218 [(0, .ref 401)] [.long s1, .ref 401] (go_mk tx μ) (go_Z w Q) := by
  unfold jjX12_nextToken_218_168_b at h
  obtain ⟨μ37, hμ37, h⟩ := go_let_e h
  refine pp_putL dX12_nextToken_218 ff_X12_114 sh_401 hμ37 ?_
  refine go_aload_n dX12_nextToken_221 0 rfl ?_
  refine go_dup dX12_nextToken_222 rfl ?_
  refine pp_getI dX12_nextToken_223 ff_X12_93 (by decide) sh_401 ?_
  refine go_iconst (v := 1) dX12_nextToken_226 (by decide) ?_
  refine go_iadd dX12_nextToken_227 ?_
  obtain ⟨μ38, hμ38, h⟩ := go_let_e h
  refine pp_putI dX12_nextToken_228 ff_X12_93 (Or.inl rfl) sh_401 hμ38 ?_
  refine go_goto 168 dX12_nextToken_231 (by decide) ?_
  cases h
  have hK : Go w 1 0 0 mtX12_nextToken 168 [(0, .ref 401)] [] (go_mk tx μ38) (go_Z w Q) := hK
  exact go_pick [0] rfl hK
set_option maxRecDepth 20000 in
set_option maxHeartbeats 4000000 in
theorem lqX12_nextToken_168_b (w : go_Wd) (tx : Nat) (Q : Option Value → go_M → Prop)     (μ : PM) (out : (PM) ⊕ (PM)) (h : lbX12_nextToken_168_b  μ = some out) (hK : go_out (ggX12_nextToken_168_b w tx Q  ) (eeX12_nextToken_168_b w tx Q  ) out) : ggX12_nextToken_168_b w tx Q   μ := by
  unfold lbX12_nextToken_168_b at h
  show Go w 1 0 0 mtX12_nextToken 168 [(0, .ref 401)] [] (go_mk tx μ) (go_Z w Q)
  refine go_aload_n dX12_nextToken_168 0 rfl ?_
  refine go_aload_n dX12_nextToken_169 0 rfl ?_
  refine pp_getI dX12_nextToken_170 ff_X12_93 (by decide) sh_401 ?_
  obtain ⟨q35, hq35, h⟩ := go_bind h
  refine pp_callV (as := [.int (μ.1 401 7)]) (st := []) (rv := (some (.int q35))) (μ1 := μ) (st1 := [.int q35]) dX12_nextToken_173 ll_X12_96 sh_401 (by decide) rfl (ctX12_byteAt  hq35) rfl (Nat.le_of_ble_eq_true rfl) (Nat.le_of_ble_eq_true rfl) (go_Z_up w _) rfl rfl ?_
  refine pp_callS (as := [.int q35]) (st := []) (rv := (some (.int (fX12_isLetterByte q35)))) (μ1 := μ) (st1 := [.int (fX12_isLetterByte q35)]) dX12_nextToken_176 ll_X12_111 (ctX12_isLetterByte  rfl) rfl (Nat.le_of_ble_eq_true rfl) (Nat.le_of_ble_eq_true rfl) (go_Z_up w _) rfl rfl ?_
  refine go_if_eq 310 dX12_nextToken_179 (by decide) (fun hc => ?_) (fun hc => ?_)
  · have h := go_ifp hc h
    cases h
    exact go_vret dX12_nextToken_310 rfl hK
  · have h := go_ifn hc h
    refine go_aload_n dX12_nextToken_182 0 rfl ?_
    refine go_aload_n dX12_nextToken_183 0 rfl ?_
    refine pp_getL dX12_nextToken_184 ff_X12_114 sh_401 ?_
    refine go_bipush (v := 48) dX12_nextToken_187 (by decide) ?_
    refine go_lshr dX12_nextToken_189 ?_
    refine go_lconst (v := 0) dX12_nextToken_190 (by decide) ?_
    refine go_lcmp dX12_nextToken_191 ?_
    refine go_if_eq 201 dX12_nextToken_192 (by decide) (fun hc => ?_) (fun hc => ?_)
    · have h := go_ifp hc h
      refine go_aload_n dX12_nextToken_201 0 rfl ?_
      refine pp_getL dX12_nextToken_202 ff_X12_114 sh_401 ?_
      refine go_bipush (v := 8) dX12_nextToken_205 (by decide) ?_
      refine go_lshl dX12_nextToken_207 ?_
      refine go_aload_n dX12_nextToken_208 0 rfl ?_
      refine go_aload_n dX12_nextToken_209 0 rfl ?_
      refine pp_getI dX12_nextToken_210 ff_X12_93 (by decide) sh_401 ?_
      obtain ⟨q36, hq36, h⟩ := go_bind h
      refine pp_callV (as := [.int (μ.1 401 7)]) (st := [.long ((μ.2 401 11) <<< ((8 : Int32).toInt64 &&& 63)), .ref 401]) (rv := (some (.int q36))) (μ1 := μ) (st1 := [.int q36, .long ((μ.2 401 11) <<< ((8 : Int32).toInt64 &&& 63)), .ref 401]) dX12_nextToken_213 ll_X12_96 sh_401 (by decide) rfl (ctX12_byteAt  hq36) rfl (Nat.le_of_ble_eq_true rfl) (Nat.le_of_ble_eq_true rfl) (go_Z_up w _) rfl rfl ?_
      refine go_i2l dX12_nextToken_216 ?_
      refine go_lor dX12_nextToken_217 ?_
      refine go_pick [0] rfl ?_
      exact jqX12_nextToken_218_168_b w tx Q μ    ((((μ.2 401 11) <<< ((8 : Int32).toInt64 &&& 63)) ||| q36.toInt64))  _ h hK
    · have h := go_ifn hc h
      refine go_ldc2 dX12_nextToken_195 kl_X12_118 ?_
      refine go_goto 218 dX12_nextToken_198 (by decide) ?_
      refine go_pick [0] rfl ?_
      exact jqX12_nextToken_218_168_b w tx Q μ    1152921504606846976  _ h hK
set_option maxRecDepth 20000 in
set_option maxHeartbeats 4000000 in
theorem jqX12_nextToken_135_85_b (w : go_Wd) (tx : Nat) (Q : Option Value → go_M → Prop) (μ : PM)    (s1 : Int32)  (out : (PM) ⊕ (PM)) (h : jjX12_nextToken_135_85_b μ  s1 = some out) (hK : go_out (ggX12_nextToken_85_b w tx Q  ) (eeX12_nextToken_85_b w tx Q  ) out) : Go w 1 0 0 mtX12_nextToken 135 [(0, .ref 401)] [.int s1, .ref 401] (go_mk tx μ) (go_Z w Q) := by
  unfold jjX12_nextToken_135_85_b at h
  obtain ⟨μ44, hμ44, h⟩ := go_let_e h
  refine pp_putI dX12_nextToken_135 ff_X12_108 (Or.inl rfl) sh_401 hμ44 ?_
  refine go_aload_n dX12_nextToken_138 0 rfl ?_
  refine go_dup dX12_nextToken_139 rfl ?_
  refine pp_getI dX12_nextToken_140 ff_X12_93 (by decide) sh_401 ?_
  refine go_iconst (v := 1) dX12_nextToken_143 (by decide) ?_
  refine go_iadd dX12_nextToken_144 ?_
  obtain ⟨μ45, hμ45, h⟩ := go_let_e h
  refine pp_putI dX12_nextToken_145 ff_X12_93 (Or.inl rfl) sh_401 hμ45 ?_
  refine go_goto 85 dX12_nextToken_148 (by decide) ?_
  cases h
  have hK : Go w 1 0 0 mtX12_nextToken 85 [(0, .ref 401)] [] (go_mk tx μ45) (go_Z w Q) := hK
  exact go_pick [0] rfl hK
set_option maxRecDepth 20000 in
set_option maxHeartbeats 4000000 in
theorem lqX12_nextToken_85_b (w : go_Wd) (tx : Nat) (Q : Option Value → go_M → Prop)     (μ : PM) (out : (PM) ⊕ (PM)) (h : lbX12_nextToken_85_b  μ = some out) (hK : go_out (ggX12_nextToken_85_b w tx Q  ) (eeX12_nextToken_85_b w tx Q  ) out) : ggX12_nextToken_85_b w tx Q   μ := by
  unfold lbX12_nextToken_85_b at h
  show Go w 1 0 0 mtX12_nextToken 85 [(0, .ref 401)] [] (go_mk tx μ) (go_Z w Q)
  refine go_aload_n dX12_nextToken_85 0 rfl ?_
  refine go_aload_n dX12_nextToken_86 0 rfl ?_
  refine pp_getI dX12_nextToken_87 ff_X12_93 (by decide) sh_401 ?_
  obtain ⟨q42, hq42, h⟩ := go_bind h
  refine pp_callV (as := [.int (μ.1 401 7)]) (st := []) (rv := (some (.int q42))) (μ1 := μ) (st1 := [.int q42]) dX12_nextToken_90 ll_X12_96 sh_401 (by decide) rfl (ctX12_byteAt  hq42) rfl (Nat.le_of_ble_eq_true rfl) (Nat.le_of_ble_eq_true rfl) (go_Z_up w _) rfl rfl ?_
  refine pp_callS (as := [.int q42]) (st := []) (rv := (some (.int (fX12_isFigure q42)))) (μ1 := μ) (st1 := [.int (fX12_isFigure q42)]) dX12_nextToken_93 ll_X12_105 (ctX12_isFigure  rfl) rfl (Nat.le_of_ble_eq_true rfl) (Nat.le_of_ble_eq_true rfl) (go_Z_up w _) rfl rfl ?_
  refine go_if_eq 310 dX12_nextToken_96 (by decide) (fun hc => ?_) (fun hc => ?_)
  · have h := go_ifp hc h
    cases h
    exact go_vret dX12_nextToken_310 rfl hK
  · have h := go_ifn hc h
    refine go_aload_n dX12_nextToken_99 0 rfl ?_
    refine go_aload_n dX12_nextToken_100 0 rfl ?_
    refine pp_getI dX12_nextToken_101 ff_X12_108 (by decide) sh_401 ?_
    refine go_ldc dX12_nextToken_104 kk_X12_67 ?_
    refine go_icmp_le 116 dX12_nextToken_106 (by decide) (fun hc => ?_) (fun hc => ?_)
    · have h := go_ifp hc h
      refine go_bipush (v := 10) dX12_nextToken_116 (by decide) ?_
      refine go_aload_n dX12_nextToken_118 0 rfl ?_
      refine pp_getI dX12_nextToken_119 ff_X12_108 (by decide) sh_401 ?_
      refine go_imul dX12_nextToken_122 ?_
      refine go_aload_n dX12_nextToken_123 0 rfl ?_
      refine go_aload_n dX12_nextToken_124 0 rfl ?_
      refine pp_getI dX12_nextToken_125 ff_X12_93 (by decide) sh_401 ?_
      obtain ⟨q43, hq43, h⟩ := go_bind h
      refine pp_callV (as := [.int (μ.1 401 7)]) (st := [.int (10 * (μ.1 401 10)), .ref 401]) (rv := (some (.int q43))) (μ1 := μ) (st1 := [.int q43, .int (10 * (μ.1 401 10)), .ref 401]) dX12_nextToken_128 ll_X12_96 sh_401 (by decide) rfl (ctX12_byteAt  hq43) rfl (Nat.le_of_ble_eq_true rfl) (Nat.le_of_ble_eq_true rfl) (go_Z_up w _) rfl rfl ?_
      refine go_iadd dX12_nextToken_131 ?_
      refine go_bipush (v := 48) dX12_nextToken_132 (by decide) ?_
      refine go_isub dX12_nextToken_134 ?_
      refine go_pick [0] rfl ?_
      exact jqX12_nextToken_135_85_b w tx Q μ    ((((10 * (μ.1 401 10)) + q43) - 48))  _ h hK
    · have h := go_ifn hc h
      refine go_aload_n dX12_nextToken_109 0 rfl ?_
      refine pp_getI dX12_nextToken_110 ff_X12_108 (by decide) sh_401 ?_
      refine go_goto 135 dX12_nextToken_113 (by decide) ?_
      refine go_pick [0] rfl ?_
      exact jqX12_nextToken_135_85_b w tx Q μ    ((μ.1 401 10))  _ h hK
set_option maxRecDepth 20000 in
set_option maxHeartbeats 4000000 in
theorem cmX12_nextToken (w : go_Wd) (tx : Nat) (Q : Option Value → go_M → Prop) (μ : PM)  (out : PM) (h : fX12_nextToken μ = some out) (hK : Q none (go_mk tx out)) : Go w 1 0 0 mtX12_nextToken 0 [(0, .ref 401)] [] (go_mk tx μ) (go_Z w Q) := by
  unfold fX12_nextToken at h
  refine go_aload_n dX12_nextToken_0 0 rfl ?_
  refine go_aload_n dX12_nextToken_1 0 rfl ?_
  refine pp_getI dX12_nextToken_2 ff_X12_93 (by decide) sh_401 ?_
  obtain ⟨q1, hq1, h⟩ := go_bind h
  refine pp_callV (as := [.int (μ.1 401 7)]) (st := []) (rv := (some (.int q1))) (μ1 := μ) (st1 := [.int q1]) dX12_nextToken_5 ll_X12_96 sh_401 (by decide) rfl (ctX12_byteAt  hq1) rfl (Nat.le_of_ble_eq_true rfl) (Nat.le_of_ble_eq_true rfl) (go_Z_up w _) rfl rfl ?_
  refine go_bipush (v := 32) dX12_nextToken_8 (by decide) ?_
  refine go_icmp_eq 26 dX12_nextToken_10 (by decide) (fun hc => ?_) (fun hc => ?_)
  · have h := go_ifp hc h
    refine go_pick [0] rfl ?_
    exact jqX12_nextToken_26 w tx Q μ      _ h hK
  · have h := go_ifn hc h
    refine go_aload_n dX12_nextToken_13 0 rfl ?_
    refine go_aload_n dX12_nextToken_14 0 rfl ?_
    refine pp_getI dX12_nextToken_15 ff_X12_93 (by decide) sh_401 ?_
    obtain ⟨q30, hq30, h⟩ := go_bind h
    refine pp_callV (as := [.int (μ.1 401 7)]) (st := []) (rv := (some (.int q30))) (μ1 := μ) (st1 := [.int q30]) dX12_nextToken_18 ll_X12_96 sh_401 (by decide) rfl (ctX12_byteAt  hq30) rfl (Nat.le_of_ble_eq_true rfl) (Nat.le_of_ble_eq_true rfl) (go_Z_up w _) rfl rfl ?_
    refine go_bipush (v := 10) dX12_nextToken_21 (by decide) ?_
    refine go_icmp_ne 39 dX12_nextToken_23 (by decide) (fun hc => ?_) (fun hc => ?_)
    · have h := go_ifn hc h
      refine go_aload_n dX12_nextToken_39 0 rfl ?_
      refine go_aload_n dX12_nextToken_40 0 rfl ?_
      refine pp_getI dX12_nextToken_41 ff_X12_93 (by decide) sh_401 ?_
      obtain ⟨μ31, hμ31, h⟩ := go_let_e h
      refine pp_putI dX12_nextToken_44 ff_X12_99 (Or.inl rfl) sh_401 hμ31 ?_
      refine go_aload_n dX12_nextToken_47 0 rfl ?_
      refine go_aload_n dX12_nextToken_48 0 rfl ?_
      refine pp_getI dX12_nextToken_49 ff_X12_93 (by decide) sh_401 ?_
      obtain ⟨q32, hq32, h⟩ := go_bind h
      refine pp_callV (as := [.int (μ31.1 401 7)]) (st := []) (rv := (some (.int q32))) (μ1 := μ31) (st1 := [.int q32]) dX12_nextToken_52 ll_X12_96 sh_401 (by decide) rfl (ctX12_byteAt  hq32) rfl (Nat.le_of_ble_eq_true rfl) (Nat.le_of_ble_eq_true rfl) (go_Z_up w _) rfl rfl ?_
      refine go_istore_n dX12_nextToken_55 (by decide) rfl ?_
      show Go w 1 0 0 mtX12_nextToken 56 [(1, .int q32), (0, .ref 401)] [] (go_mk tx μ31) (go_Z w Q)
      refine go_iload_n dX12_nextToken_56 0 rfl ?_
      refine go_if_ge 68 dX12_nextToken_57 (by decide) (fun hc => ?_) (fun hc => ?_)
      · have h := go_ifp hc h
        refine go_iload_n dX12_nextToken_68 0 rfl ?_
        refine pp_callS (as := [.int q32]) (st := []) (rv := (some (.int (fX12_isFigure q32)))) (μ1 := μ31) (st1 := [.int (fX12_isFigure q32)]) dX12_nextToken_69 ll_X12_105 (ctX12_isFigure  rfl) rfl (Nat.le_of_ble_eq_true rfl) (Nat.le_of_ble_eq_true rfl) (go_Z_up w _) rfl rfl ?_
        refine go_if_eq 151 dX12_nextToken_72 (by decide) (fun hc => ?_) (fun hc => ?_)
        · have h := go_ifp hc h
          refine go_iload_n dX12_nextToken_151 0 rfl ?_
          refine pp_callS (as := [.int q32]) (st := []) (rv := (some (.int (fX12_isLetterByte q32)))) (μ1 := μ31) (st1 := [.int (fX12_isLetterByte q32)]) dX12_nextToken_152 ll_X12_111 (ctX12_isLetterByte  rfl) rfl (Nat.le_of_ble_eq_true rfl) (Nat.le_of_ble_eq_true rfl) (go_Z_up w _) rfl rfl ?_
          refine go_if_eq 234 dX12_nextToken_155 (by decide) (fun hc => ?_) (fun hc => ?_)
          · have h := go_ifp hc h
            refine go_aload_n dX12_nextToken_234 1 rfl ?_
            refine go_iload_n dX12_nextToken_235 0 rfl ?_
            refine pp_callS (as := [.int q32]) (st := [.ref 401]) (rv := (some (.int (fX12_isSign q32)))) (μ1 := μ31) (st1 := [.int (fX12_isSign q32), .ref 401]) dX12_nextToken_236 ll_X12_120 (ctX12_isSign  rfl) rfl (Nat.le_of_ble_eq_true rfl) (Nat.le_of_ble_eq_true rfl) (go_Z_up w _) rfl rfl ?_
            refine go_if_eq 246 dX12_nextToken_239 (by decide) (fun hc => ?_) (fun hc => ?_)
            · have h := go_ifp hc h
              refine go_iconst (v := 3) dX12_nextToken_246 (by decide) ?_
              refine go_pick [1, 0] rfl ?_
              exact jqX12_nextToken_247 w tx Q μ31  q32  3  _ h hK
            · have h := go_ifn hc h
              refine go_iload_n dX12_nextToken_242 0 rfl ?_
              refine go_goto 247 dX12_nextToken_243 (by decide) ?_
              refine go_pick [1, 0] rfl ?_
              exact jqX12_nextToken_247 w tx Q μ31  q32  q32  _ h hK
          · have h := go_ifn hc h
            refine go_aload_n dX12_nextToken_158 1 rfl ?_
            refine go_iconst (v := 2) dX12_nextToken_159 (by decide) ?_
            obtain ⟨μ33, hμ33, h⟩ := go_let_e h
            refine pp_putI dX12_nextToken_160 ff_X12_102 (Or.inl rfl) sh_401 hμ33 ?_
            refine go_aload_n dX12_nextToken_163 1 rfl ?_
            refine go_lconst (v := 0) dX12_nextToken_164 (by decide) ?_
            obtain ⟨μ34, hμ34, h⟩ := go_let_e h
            refine pp_putL dX12_nextToken_165 ff_X12_114 sh_401 hμ34 ?_
            obtain ⟨ρ39, hρ39, h⟩ := go_bind h
            refine go_pick [1] rfl ?_
            refine go_lp (G := ggX12_nextToken_168_b w tx Q  ) (E := eeX12_nextToken_168_b w tx Q  ) (fun s out h hK => lqX12_nextToken_168_b w tx Q    s out h hK) go_fuel μ34 ρ39 hρ39 ?_
            cases h
            exact hK
        · have h := go_ifn hc h
          refine go_aload_n dX12_nextToken_75 1 rfl ?_
          refine go_iconst (v := 1) dX12_nextToken_76 (by decide) ?_
          obtain ⟨μ40, hμ40, h⟩ := go_let_e h
          refine pp_putI dX12_nextToken_77 ff_X12_102 (Or.inl rfl) sh_401 hμ40 ?_
          refine go_aload_n dX12_nextToken_80 1 rfl ?_
          refine go_iconst (v := 0) dX12_nextToken_81 (by decide) ?_
          obtain ⟨μ41, hμ41, h⟩ := go_let_e h
          refine pp_putI dX12_nextToken_82 ff_X12_108 (Or.inl rfl) sh_401 hμ41 ?_
          obtain ⟨ρ46, hρ46, h⟩ := go_bind h
          refine go_pick [1] rfl ?_
          refine go_lp (G := ggX12_nextToken_85_b w tx Q  ) (E := eeX12_nextToken_85_b w tx Q  ) (fun s out h hK => lqX12_nextToken_85_b w tx Q    s out h hK) go_fuel μ41 ρ46 hρ46 ?_
          cases h
          exact hK
      · have h := go_ifn hc h
        refine go_aload_n dX12_nextToken_60 1 rfl ?_
        refine go_iconst (v := 0) dX12_nextToken_61 (by decide) ?_
        obtain ⟨μ47, hμ47, h⟩ := go_let_e h
        refine pp_putI dX12_nextToken_62 ff_X12_102 (Or.inl rfl) sh_401 hμ47 ?_
        refine go_goto 310 dX12_nextToken_65 (by decide) ?_
        cases h
        exact go_vret dX12_nextToken_310 rfl hK
    · have h := go_ifp hc h
      refine go_pick [0] rfl ?_
      exact jqX12_nextToken_26 w tx Q μ      _ h hK
theorem ctX12_nextToken {w : go_Wd} {tx : Nat} {μ : PM}  {μ1 : PM}  (h : fX12_nextToken μ = some μ1) : Ct w 1 0 0 mtX12_nextToken [.ref 401] (go_mk tx μ) (fun r' M' => r' = none ∧ M' = go_mk tx μ1) :=
  go_entry rfl (by decide) (Nat.le_of_ble_eq_true rfl) (cmX12_nextToken w tx _ μ  _ h ⟨rfl, rfl⟩)
def fX12_w2 (a0 : Int32) (a1 : Int32) : Int64 :=
  ((a0.toInt64 <<< ((8 : Int32).toInt64 &&& 63)) ||| a1.toInt64)
set_option maxRecDepth 20000 in
set_option maxHeartbeats 4000000 in
theorem cmX12_w2 (w : go_Wd) (tx : Nat) (Q : Option Value → go_M → Prop) (μ : PM) (a0 : Int32) (a1 : Int32) (out : Int64) (h : fX12_w2 a0 a1 = out) (hK : Q (some (.long out)) (go_mk tx μ)) : Go w 0 0 0 mtX12_w2 0 [(0, .int a0), (1, .int a1)] [] (go_mk tx μ) (go_Z w Q) := by
  unfold fX12_w2 at h
  refine go_iload_n dX12_w2_0 0 rfl ?_
  refine go_i2l dX12_w2_1 ?_
  refine go_bipush (v := 8) dX12_w2_2 (by decide) ?_
  refine go_lshl dX12_w2_4 ?_
  refine go_iload_n dX12_w2_5 1 rfl ?_
  refine go_i2l dX12_w2_6 ?_
  refine go_lor dX12_w2_7 ?_
  subst h
  exact go_lret dX12_w2_8 rfl hK
theorem ctX12_w2 {w : go_Wd} {tx : Nat} {μ : PM} {a0 : Int32} {a1 : Int32} {r : Int64}  (h : fX12_w2 a0 a1 = r) : Ct w 0 0 0 mtX12_w2 [.int a0, .int a1] (go_mk tx μ) (fun r' M' => r' = some (.long r) ∧ M' = go_mk tx μ) :=
  go_entry rfl (by decide) (Nat.le_of_ble_eq_true rfl) (cmX12_w2 w tx _ μ a0 a1 _ h ⟨rfl, rfl⟩)
def fX12_w3 (a0 : Int32) (a1 : Int32) (a2 : Int32) : Int64 :=
  (((fX12_w2 a0 a1) <<< ((8 : Int32).toInt64 &&& 63)) ||| a2.toInt64)
set_option maxRecDepth 20000 in
set_option maxHeartbeats 4000000 in
theorem cmX12_w3 (w : go_Wd) (tx : Nat) (Q : Option Value → go_M → Prop) (μ : PM) (a0 : Int32) (a1 : Int32) (a2 : Int32) (out : Int64) (h : fX12_w3 a0 a1 a2 = out) (hK : Q (some (.long out)) (go_mk tx μ)) : Go w 1 0 0 mtX12_w3 0 [(0, .int a0), (1, .int a1), (2, .int a2)] [] (go_mk tx μ) (go_Z w Q) := by
  unfold fX12_w3 at h
  refine go_iload_n dX12_w3_0 0 rfl ?_
  refine go_iload_n dX12_w3_1 1 rfl ?_
  refine pp_callS (as := [.int a0, .int a1]) (st := []) (rv := (some (.long (fX12_w2 a0 a1)))) (μ1 := μ) (st1 := [.long (fX12_w2 a0 a1)]) dX12_w3_2 ll_X12_123 (ctX12_w2  rfl) rfl (Nat.le_of_ble_eq_true rfl) (Nat.le_of_ble_eq_true rfl) (go_Z_up w _) rfl rfl ?_
  refine go_bipush (v := 8) dX12_w3_5 (by decide) ?_
  refine go_lshl dX12_w3_7 ?_
  refine go_iload_n dX12_w3_8 2 rfl ?_
  refine go_i2l dX12_w3_9 ?_
  refine go_lor dX12_w3_10 ?_
  subst h
  exact go_lret dX12_w3_11 rfl hK
theorem ctX12_w3 {w : go_Wd} {tx : Nat} {μ : PM} {a0 : Int32} {a1 : Int32} {a2 : Int32} {r : Int64}  (h : fX12_w3 a0 a1 a2 = r) : Ct w 1 0 0 mtX12_w3 [.int a0, .int a1, .int a2] (go_mk tx μ) (fun r' M' => r' = some (.long r) ∧ M' = go_mk tx μ) :=
  go_entry rfl (by decide) (Nat.le_of_ble_eq_true rfl) (cmX12_w3 w tx _ μ a0 a1 a2 _ h ⟨rfl, rfl⟩)
def fX12_w4 (a0 : Int32) (a1 : Int32) (a2 : Int32) (a3 : Int32) : Int64 :=
  (((fX12_w3 a0 a1 a2) <<< ((8 : Int32).toInt64 &&& 63)) ||| a3.toInt64)
set_option maxRecDepth 20000 in
set_option maxHeartbeats 4000000 in
theorem cmX12_w4 (w : go_Wd) (tx : Nat) (Q : Option Value → go_M → Prop) (μ : PM) (a0 : Int32) (a1 : Int32) (a2 : Int32) (a3 : Int32) (out : Int64) (h : fX12_w4 a0 a1 a2 a3 = out) (hK : Q (some (.long out)) (go_mk tx μ)) : Go w 2 0 0 mtX12_w4 0 [(0, .int a0), (1, .int a1), (2, .int a2), (3, .int a3)] [] (go_mk tx μ) (go_Z w Q) := by
  unfold fX12_w4 at h
  refine go_iload_n dX12_w4_0 0 rfl ?_
  refine go_iload_n dX12_w4_1 1 rfl ?_
  refine go_iload_n dX12_w4_2 2 rfl ?_
  refine pp_callS (as := [.int a0, .int a1, .int a2]) (st := []) (rv := (some (.long (fX12_w3 a0 a1 a2)))) (μ1 := μ) (st1 := [.long (fX12_w3 a0 a1 a2)]) dX12_w4_3 ll_X12_127 (ctX12_w3  rfl) rfl (Nat.le_of_ble_eq_true rfl) (Nat.le_of_ble_eq_true rfl) (go_Z_up w _) rfl rfl ?_
  refine go_bipush (v := 8) dX12_w4_6 (by decide) ?_
  refine go_lshl dX12_w4_8 ?_
  refine go_iload_n dX12_w4_9 3 rfl ?_
  refine go_i2l dX12_w4_10 ?_
  refine go_lor dX12_w4_11 ?_
  subst h
  exact go_lret dX12_w4_12 rfl hK
theorem ctX12_w4 {w : go_Wd} {tx : Nat} {μ : PM} {a0 : Int32} {a1 : Int32} {a2 : Int32} {a3 : Int32} {r : Int64}  (h : fX12_w4 a0 a1 a2 a3 = r) : Ct w 2 0 0 mtX12_w4 [.int a0, .int a1, .int a2, .int a3] (go_mk tx μ) (fun r' M' => r' = some (.long r) ∧ M' = go_mk tx μ) :=
  go_entry rfl (by decide) (Nat.le_of_ble_eq_true rfl) (cmX12_w4 w tx _ μ a0 a1 a2 a3 _ h ⟨rfl, rfl⟩)
def fX12_w5 (a0 : Int32) (a1 : Int32) (a2 : Int32) (a3 : Int32) (a4 : Int32) : Int64 :=
  (((fX12_w4 a0 a1 a2 a3) <<< ((8 : Int32).toInt64 &&& 63)) ||| a4.toInt64)
set_option maxRecDepth 20000 in
set_option maxHeartbeats 4000000 in
theorem cmX12_w5 (w : go_Wd) (tx : Nat) (Q : Option Value → go_M → Prop) (μ : PM) (a0 : Int32) (a1 : Int32) (a2 : Int32) (a3 : Int32) (a4 : Int32) (out : Int64) (h : fX12_w5 a0 a1 a2 a3 a4 = out) (hK : Q (some (.long out)) (go_mk tx μ)) : Go w 3 0 0 mtX12_w5 0 [(0, .int a0), (1, .int a1), (2, .int a2), (3, .int a3), (4, .int a4)] [] (go_mk tx μ) (go_Z w Q) := by
  unfold fX12_w5 at h
  refine go_iload_n dX12_w5_0 0 rfl ?_
  refine go_iload_n dX12_w5_1 1 rfl ?_
  refine go_iload_n dX12_w5_2 2 rfl ?_
  refine go_iload_n dX12_w5_3 3 rfl ?_
  refine pp_callS (as := [.int a0, .int a1, .int a2, .int a3]) (st := []) (rv := (some (.long (fX12_w4 a0 a1 a2 a3)))) (μ1 := μ) (st1 := [.long (fX12_w4 a0 a1 a2 a3)]) dX12_w5_4 ll_X12_131 (ctX12_w4  rfl) rfl (Nat.le_of_ble_eq_true rfl) (Nat.le_of_ble_eq_true rfl) (go_Z_up w _) rfl rfl ?_
  refine go_bipush (v := 8) dX12_w5_7 (by decide) ?_
  refine go_lshl dX12_w5_9 ?_
  refine go_iload dX12_w5_10 4 rfl ?_
  refine go_i2l dX12_w5_12 ?_
  refine go_lor dX12_w5_13 ?_
  subst h
  exact go_lret dX12_w5_14 rfl hK
theorem ctX12_w5 {w : go_Wd} {tx : Nat} {μ : PM} {a0 : Int32} {a1 : Int32} {a2 : Int32} {a3 : Int32} {a4 : Int32} {r : Int64}  (h : fX12_w5 a0 a1 a2 a3 a4 = r) : Ct w 3 0 0 mtX12_w5 [.int a0, .int a1, .int a2, .int a3, .int a4] (go_mk tx μ) (fun r' M' => r' = some (.long r) ∧ M' = go_mk tx μ) :=
  go_entry rfl (by decide) (Nat.le_of_ble_eq_true rfl) (cmX12_w5 w tx _ μ a0 a1 a2 a3 a4 _ h ⟨rfl, rfl⟩)
def fX12_w6 (a0 : Int32) (a1 : Int32) (a2 : Int32) (a3 : Int32) (a4 : Int32) (a5 : Int32) : Int64 :=
  (((fX12_w5 a0 a1 a2 a3 a4) <<< ((8 : Int32).toInt64 &&& 63)) ||| a5.toInt64)
set_option maxRecDepth 20000 in
set_option maxHeartbeats 4000000 in
theorem cmX12_w6 (w : go_Wd) (tx : Nat) (Q : Option Value → go_M → Prop) (μ : PM) (a0 : Int32) (a1 : Int32) (a2 : Int32) (a3 : Int32) (a4 : Int32) (a5 : Int32) (out : Int64) (h : fX12_w6 a0 a1 a2 a3 a4 a5 = out) (hK : Q (some (.long out)) (go_mk tx μ)) : Go w 4 0 0 mtX12_w6 0 [(0, .int a0), (1, .int a1), (2, .int a2), (3, .int a3), (4, .int a4), (5, .int a5)] [] (go_mk tx μ) (go_Z w Q) := by
  unfold fX12_w6 at h
  refine go_iload_n dX12_w6_0 0 rfl ?_
  refine go_iload_n dX12_w6_1 1 rfl ?_
  refine go_iload_n dX12_w6_2 2 rfl ?_
  refine go_iload_n dX12_w6_3 3 rfl ?_
  refine go_iload dX12_w6_4 4 rfl ?_
  refine pp_callS (as := [.int a0, .int a1, .int a2, .int a3, .int a4]) (st := []) (rv := (some (.long (fX12_w5 a0 a1 a2 a3 a4)))) (μ1 := μ) (st1 := [.long (fX12_w5 a0 a1 a2 a3 a4)]) dX12_w6_6 ll_X12_135 (ctX12_w5  rfl) rfl (Nat.le_of_ble_eq_true rfl) (Nat.le_of_ble_eq_true rfl) (go_Z_up w _) rfl rfl ?_
  refine go_bipush (v := 8) dX12_w6_9 (by decide) ?_
  refine go_lshl dX12_w6_11 ?_
  refine go_iload dX12_w6_12 5 rfl ?_
  refine go_i2l dX12_w6_14 ?_
  refine go_lor dX12_w6_15 ?_
  subst h
  exact go_lret dX12_w6_16 rfl hK
theorem ctX12_w6 {w : go_Wd} {tx : Nat} {μ : PM} {a0 : Int32} {a1 : Int32} {a2 : Int32} {a3 : Int32} {a4 : Int32} {a5 : Int32} {r : Int64}  (h : fX12_w6 a0 a1 a2 a3 a4 a5 = r) : Ct w 4 0 0 mtX12_w6 [.int a0, .int a1, .int a2, .int a3, .int a4, .int a5] (go_mk tx μ) (fun r' M' => r' = some (.long r) ∧ M' = go_mk tx μ) :=
  go_entry rfl (by decide) (Nat.le_of_ble_eq_true rfl) (cmX12_w6 w tx _ μ a0 a1 a2 a3 a4 a5 _ h ⟨rfl, rfl⟩)
def fX12_isWord (μ : PM) (a0 : Int64) : Int32 :=
  (if (μ.1 401 9) = 2 then (if (lg_cmp (μ.2 401 11) a0) = 0 then 1 else 0) else 0)
set_option maxRecDepth 20000 in
set_option maxHeartbeats 4000000 in
theorem cmX12_isWord (w : go_Wd) (tx : Nat) (Q : Option Value → go_M → Prop) (μ : PM) (a0 : Int64) (out : Int32) (h : fX12_isWord μ a0 = out) (hK : Q (some (.int out)) (go_mk tx μ)) : Go w 0 0 0 mtX12_isWord 0 [(0, .ref 401), (1, .long a0)] [] (go_mk tx μ) (go_Z w Q) := by
  unfold fX12_isWord at h
  refine go_aload_n dX12_isWord_0 0 rfl ?_
  refine pp_getI dX12_isWord_1 ff_X12_102 (by decide) sh_401 ?_
  refine go_iconst (v := 2) dX12_isWord_4 (by decide) ?_
  refine go_icmp_ne 21 dX12_isWord_5 (by decide) (fun hc => ?_) (fun hc => ?_)
  · have h := go_ifn hc h
    refine go_iconst (v := 0) dX12_isWord_21 (by decide) ?_
    subst h
    exact go_zret dX12_isWord_22 rfl (Or.inl rfl) hK
  · have h := go_ifp hc h
    refine go_aload_n dX12_isWord_8 0 rfl ?_
    refine pp_getL dX12_isWord_9 ff_X12_114 sh_401 ?_
    refine go_lload_n dX12_isWord_12 1 rfl ?_
    refine go_lcmp dX12_isWord_13 ?_
    refine go_if_ne 21 dX12_isWord_14 (by decide) (fun hc => ?_) (fun hc => ?_)
    · have h := go_ifn hc h
      refine go_iconst (v := 0) dX12_isWord_21 (by decide) ?_
      subst h
      exact go_zret dX12_isWord_22 rfl (Or.inl rfl) hK
    · have h := go_ifp hc h
      refine go_iconst (v := 1) dX12_isWord_17 (by decide) ?_
      refine go_goto 22 dX12_isWord_18 (by decide) ?_
      subst h
      exact go_zret dX12_isWord_22 rfl (Or.inr rfl) hK
theorem ctX12_isWord {w : go_Wd} {tx : Nat} {μ : PM} {a0 : Int64} {r : Int32}  (h : fX12_isWord μ a0 = r) : Ct w 0 0 0 mtX12_isWord [.ref 401, .long a0] (go_mk tx μ) (fun r' M' => r' = some (.int r) ∧ M' = go_mk tx μ) :=
  go_entry rfl (by decide) (Nat.le_of_ble_eq_true rfl) (cmX12_isWord w tx _ μ a0 _ h ⟨rfl, rfl⟩)
theorem bzX12_isWord {μ : PM} {a0 : Int64} {r : Int32} (h : fX12_isWord μ a0 = r) : r = 0 ∨ r = 1 := by
  subst h
  show go_bi _
  unfold fX12_isWord
  repeat' first | exact bi_0 | exact bi_1 | with_reducible apply bi_ite
def fX12_emit (μ : PM) (a0 : Int32) (a1 : Int32) : Option (PM) :=
  go_chk (((μ.1 401 12) + 73) + (2 * (μ.1 401 13))) 2724 <| go_let (pm_wi μ 404 ((((μ.1 401 12) + 73) + (2 * (μ.1 401 13))) : Int32).toNatClampNeg a0) fun μ1 => go_chk ((((μ1.1 401 12) + 73) + (2 * (μ1.1 401 13))) + 1) 2724 <| go_let (pm_wi μ1 404 (((((μ1.1 401 12) + 73) + (2 * (μ1.1 401 13))) + 1) : Int32).toNatClampNeg a1) fun μ3 => go_let (pm_wi μ3 401 13 ((μ3.1 401 13) + 1)) fun μ5 => some (μ5)
set_option maxRecDepth 20000 in
set_option maxHeartbeats 4000000 in
theorem cmX12_emit (w : go_Wd) (tx : Nat) (Q : Option Value → go_M → Prop) (μ : PM) (a0 : Int32) (a1 : Int32) (out : PM) (h : fX12_emit μ a0 a1 = some out) (hK : Q none (go_mk tx out)) : Go w 0 0 0 mtX12_emit 0 [(0, .ref 401), (1, .int a0), (2, .int a1)] [] (go_mk tx μ) (go_Z w Q) := by
  unfold fX12_emit at h
  refine go_aload_n dX12_emit_0 0 rfl ?_
  refine pp_getR dX12_emit_1 ff_X12_16 (Or.inr ⟨_, rfl⟩) sh_401 rf_401_2 ?_
  refine go_aload_n dX12_emit_4 0 rfl ?_
  refine pp_getI dX12_emit_5 ff_X12_139 (by decide) sh_401 ?_
  refine go_bipush (v := 73) dX12_emit_8 (by decide) ?_
  refine go_iadd dX12_emit_10 ?_
  refine go_iconst (v := 2) dX12_emit_11 (by decide) ?_
  refine go_aload_n dX12_emit_12 0 rfl ?_
  refine pp_getI dX12_emit_13 ff_X12_142 (by decide) sh_401 ?_
  refine go_imul dX12_emit_16 ?_
  refine go_iadd dX12_emit_17 ?_
  refine go_iload_n dX12_emit_18 1 rfl ?_
  obtain ⟨hz2, h⟩ := go_chk_e h
  obtain ⟨μ1, hμ1, h⟩ := go_let_e h
  refine pp_ist dX12_emit_19 sh_404 hz2 hμ1 ?_
  refine go_aload_n dX12_emit_20 0 rfl ?_
  refine pp_getR dX12_emit_21 ff_X12_16 (Or.inr ⟨_, rfl⟩) sh_401 rf_401_2 ?_
  refine go_aload_n dX12_emit_24 0 rfl ?_
  refine pp_getI dX12_emit_25 ff_X12_139 (by decide) sh_401 ?_
  refine go_bipush (v := 73) dX12_emit_28 (by decide) ?_
  refine go_iadd dX12_emit_30 ?_
  refine go_iconst (v := 2) dX12_emit_31 (by decide) ?_
  refine go_aload_n dX12_emit_32 0 rfl ?_
  refine pp_getI dX12_emit_33 ff_X12_142 (by decide) sh_401 ?_
  refine go_imul dX12_emit_36 ?_
  refine go_iadd dX12_emit_37 ?_
  refine go_iconst (v := 1) dX12_emit_38 (by decide) ?_
  refine go_iadd dX12_emit_39 ?_
  refine go_iload_n dX12_emit_40 2 rfl ?_
  obtain ⟨hz4, h⟩ := go_chk_e h
  obtain ⟨μ3, hμ3, h⟩ := go_let_e h
  refine pp_ist dX12_emit_41 sh_404 hz4 hμ3 ?_
  refine go_aload_n dX12_emit_42 0 rfl ?_
  refine go_dup dX12_emit_43 rfl ?_
  refine pp_getI dX12_emit_44 ff_X12_142 (by decide) sh_401 ?_
  refine go_iconst (v := 1) dX12_emit_47 (by decide) ?_
  refine go_iadd dX12_emit_48 ?_
  obtain ⟨μ5, hμ5, h⟩ := go_let_e h
  refine pp_putI dX12_emit_49 ff_X12_142 (Or.inl rfl) sh_401 hμ5 ?_
  cases h
  exact go_vret dX12_emit_52 rfl hK
theorem ctX12_emit {w : go_Wd} {tx : Nat} {μ : PM} {a0 : Int32} {a1 : Int32} {μ1 : PM}  (h : fX12_emit μ a0 a1 = some μ1) : Ct w 0 0 0 mtX12_emit [.ref 401, .int a0, .int a1] (go_mk tx μ) (fun r' M' => r' = none ∧ M' = go_mk tx μ1) :=
  go_entry rfl (by decide) (Nat.le_of_ble_eq_true rfl) (cmX12_emit w tx _ μ a0 a1 _ h ⟨rfl, rfl⟩)
def fX12_nameOf (μ : PM)  : Int32 :=
  (if (μ.1 401 9) = 2 then (if (lg_cmp (μ.2 401 11) (fX12_w4 104 111 117 114)) = 0 then 0 else (if (lg_cmp (μ.2 401 11) (fX12_w4 119 97 114 109)) = 0 then 1 else (if (lg_cmp (μ.2 401 11) (fX12_w5 108 97 121 101 114)) = 0 then 2 else (if (lg_cmp (μ.2 401 11) (fX12_w4 115 105 122 101)) = 0 then 3 else (if (lg_cmp (μ.2 401 11) (fX12_w3 119 104 111)) = 0 then 4 else (if (lg_cmp (μ.2 401 11) (fX12_w6 115 111 117 110 100 115)) = 0 then 5 else (if (lg_cmp (μ.2 401 11) (fX12_w4 99 101 108 108)) = 0 then 6 else (if (lg_cmp (μ.2 401 11) (fX12_w3 110 101 116)) = 0 then 7 else (if (lg_cmp (μ.2 401 11) (fX12_w5 104 111 117 115 101)) = 0 then 8 else (-1)))))))))) else (-1))
set_option maxRecDepth 20000 in
set_option maxHeartbeats 4000000 in
theorem cmX12_nameOf (w : go_Wd) (tx : Nat) (Q : Option Value → go_M → Prop) (μ : PM)  (out : Int32) (h : fX12_nameOf μ = out) (hK : Q (some (.int out)) (go_mk tx μ)) : Go w 5 0 0 mtX12_nameOf 0 [(0, .ref 401)] [] (go_mk tx μ) (go_Z w Q) := by
  unfold fX12_nameOf at h
  refine go_aload_n dX12_nameOf_0 0 rfl ?_
  refine pp_getI dX12_nameOf_1 ff_X12_102 (by decide) sh_401 ?_
  refine go_iconst (v := 2) dX12_nameOf_4 (by decide) ?_
  refine go_icmp_eq 10 dX12_nameOf_5 (by decide) (fun hc => ?_) (fun hc => ?_)
  · have h := go_ifp hc h
    refine go_aload_n dX12_nameOf_10 0 rfl ?_
    refine pp_getL dX12_nameOf_11 ff_X12_114 sh_401 ?_
    refine go_bipush (v := 104) dX12_nameOf_14 (by decide) ?_
    refine go_bipush (v := 111) dX12_nameOf_16 (by decide) ?_
    refine go_bipush (v := 117) dX12_nameOf_18 (by decide) ?_
    refine go_bipush (v := 114) dX12_nameOf_20 (by decide) ?_
    refine pp_callS (as := [.int 104, .int 111, .int 117, .int 114]) (st := [.long (μ.2 401 11)]) (rv := (some (.long (fX12_w4 104 111 117 114)))) (μ1 := μ) (st1 := [.long (fX12_w4 104 111 117 114), .long (μ.2 401 11)]) dX12_nameOf_22 ll_X12_131 (ctX12_w4  rfl) rfl (Nat.le_of_ble_eq_true rfl) (Nat.le_of_ble_eq_true rfl) (go_Z_up w _) rfl rfl ?_
    refine go_lcmp dX12_nameOf_25 ?_
    refine go_if_ne 31 dX12_nameOf_26 (by decide) (fun hc => ?_) (fun hc => ?_)
    · have h := go_ifn hc h
      refine go_aload_n dX12_nameOf_31 0 rfl ?_
      refine pp_getL dX12_nameOf_32 ff_X12_114 sh_401 ?_
      refine go_bipush (v := 119) dX12_nameOf_35 (by decide) ?_
      refine go_bipush (v := 97) dX12_nameOf_37 (by decide) ?_
      refine go_bipush (v := 114) dX12_nameOf_39 (by decide) ?_
      refine go_bipush (v := 109) dX12_nameOf_41 (by decide) ?_
      refine pp_callS (as := [.int 119, .int 97, .int 114, .int 109]) (st := [.long (μ.2 401 11)]) (rv := (some (.long (fX12_w4 119 97 114 109)))) (μ1 := μ) (st1 := [.long (fX12_w4 119 97 114 109), .long (μ.2 401 11)]) dX12_nameOf_43 ll_X12_131 (ctX12_w4  rfl) rfl (Nat.le_of_ble_eq_true rfl) (Nat.le_of_ble_eq_true rfl) (go_Z_up w _) rfl rfl ?_
      refine go_lcmp dX12_nameOf_46 ?_
      refine go_if_ne 52 dX12_nameOf_47 (by decide) (fun hc => ?_) (fun hc => ?_)
      · have h := go_ifn hc h
        refine go_aload_n dX12_nameOf_52 0 rfl ?_
        refine pp_getL dX12_nameOf_53 ff_X12_114 sh_401 ?_
        refine go_bipush (v := 108) dX12_nameOf_56 (by decide) ?_
        refine go_bipush (v := 97) dX12_nameOf_58 (by decide) ?_
        refine go_bipush (v := 121) dX12_nameOf_60 (by decide) ?_
        refine go_bipush (v := 101) dX12_nameOf_62 (by decide) ?_
        refine go_bipush (v := 114) dX12_nameOf_64 (by decide) ?_
        refine pp_callS (as := [.int 108, .int 97, .int 121, .int 101, .int 114]) (st := [.long (μ.2 401 11)]) (rv := (some (.long (fX12_w5 108 97 121 101 114)))) (μ1 := μ) (st1 := [.long (fX12_w5 108 97 121 101 114), .long (μ.2 401 11)]) dX12_nameOf_66 ll_X12_135 (ctX12_w5  rfl) rfl (Nat.le_of_ble_eq_true rfl) (Nat.le_of_ble_eq_true rfl) (go_Z_up w _) rfl rfl ?_
        refine go_lcmp dX12_nameOf_69 ?_
        refine go_if_ne 75 dX12_nameOf_70 (by decide) (fun hc => ?_) (fun hc => ?_)
        · have h := go_ifn hc h
          refine go_aload_n dX12_nameOf_75 0 rfl ?_
          refine pp_getL dX12_nameOf_76 ff_X12_114 sh_401 ?_
          refine go_bipush (v := 115) dX12_nameOf_79 (by decide) ?_
          refine go_bipush (v := 105) dX12_nameOf_81 (by decide) ?_
          refine go_bipush (v := 122) dX12_nameOf_83 (by decide) ?_
          refine go_bipush (v := 101) dX12_nameOf_85 (by decide) ?_
          refine pp_callS (as := [.int 115, .int 105, .int 122, .int 101]) (st := [.long (μ.2 401 11)]) (rv := (some (.long (fX12_w4 115 105 122 101)))) (μ1 := μ) (st1 := [.long (fX12_w4 115 105 122 101), .long (μ.2 401 11)]) dX12_nameOf_87 ll_X12_131 (ctX12_w4  rfl) rfl (Nat.le_of_ble_eq_true rfl) (Nat.le_of_ble_eq_true rfl) (go_Z_up w _) rfl rfl ?_
          refine go_lcmp dX12_nameOf_90 ?_
          refine go_if_ne 96 dX12_nameOf_91 (by decide) (fun hc => ?_) (fun hc => ?_)
          · have h := go_ifn hc h
            refine go_aload_n dX12_nameOf_96 0 rfl ?_
            refine pp_getL dX12_nameOf_97 ff_X12_114 sh_401 ?_
            refine go_bipush (v := 119) dX12_nameOf_100 (by decide) ?_
            refine go_bipush (v := 104) dX12_nameOf_102 (by decide) ?_
            refine go_bipush (v := 111) dX12_nameOf_104 (by decide) ?_
            refine pp_callS (as := [.int 119, .int 104, .int 111]) (st := [.long (μ.2 401 11)]) (rv := (some (.long (fX12_w3 119 104 111)))) (μ1 := μ) (st1 := [.long (fX12_w3 119 104 111), .long (μ.2 401 11)]) dX12_nameOf_106 ll_X12_127 (ctX12_w3  rfl) rfl (Nat.le_of_ble_eq_true rfl) (Nat.le_of_ble_eq_true rfl) (go_Z_up w _) rfl rfl ?_
            refine go_lcmp dX12_nameOf_109 ?_
            refine go_if_ne 115 dX12_nameOf_110 (by decide) (fun hc => ?_) (fun hc => ?_)
            · have h := go_ifn hc h
              refine go_aload_n dX12_nameOf_115 0 rfl ?_
              refine pp_getL dX12_nameOf_116 ff_X12_114 sh_401 ?_
              refine go_bipush (v := 115) dX12_nameOf_119 (by decide) ?_
              refine go_bipush (v := 111) dX12_nameOf_121 (by decide) ?_
              refine go_bipush (v := 117) dX12_nameOf_123 (by decide) ?_
              refine go_bipush (v := 110) dX12_nameOf_125 (by decide) ?_
              refine go_bipush (v := 100) dX12_nameOf_127 (by decide) ?_
              refine go_bipush (v := 115) dX12_nameOf_129 (by decide) ?_
              refine pp_callS (as := [.int 115, .int 111, .int 117, .int 110, .int 100, .int 115]) (st := [.long (μ.2 401 11)]) (rv := (some (.long (fX12_w6 115 111 117 110 100 115)))) (μ1 := μ) (st1 := [.long (fX12_w6 115 111 117 110 100 115), .long (μ.2 401 11)]) dX12_nameOf_131 ll_X12_145 (ctX12_w6  rfl) rfl (Nat.le_of_ble_eq_true rfl) (Nat.le_of_ble_eq_true rfl) (go_Z_up w _) rfl rfl ?_
              refine go_lcmp dX12_nameOf_134 ?_
              refine go_if_ne 140 dX12_nameOf_135 (by decide) (fun hc => ?_) (fun hc => ?_)
              · have h := go_ifn hc h
                refine go_aload_n dX12_nameOf_140 0 rfl ?_
                refine pp_getL dX12_nameOf_141 ff_X12_114 sh_401 ?_
                refine go_bipush (v := 99) dX12_nameOf_144 (by decide) ?_
                refine go_bipush (v := 101) dX12_nameOf_146 (by decide) ?_
                refine go_bipush (v := 108) dX12_nameOf_148 (by decide) ?_
                refine go_bipush (v := 108) dX12_nameOf_150 (by decide) ?_
                refine pp_callS (as := [.int 99, .int 101, .int 108, .int 108]) (st := [.long (μ.2 401 11)]) (rv := (some (.long (fX12_w4 99 101 108 108)))) (μ1 := μ) (st1 := [.long (fX12_w4 99 101 108 108), .long (μ.2 401 11)]) dX12_nameOf_152 ll_X12_131 (ctX12_w4  rfl) rfl (Nat.le_of_ble_eq_true rfl) (Nat.le_of_ble_eq_true rfl) (go_Z_up w _) rfl rfl ?_
                refine go_lcmp dX12_nameOf_155 ?_
                refine go_if_ne 162 dX12_nameOf_156 (by decide) (fun hc => ?_) (fun hc => ?_)
                · have h := go_ifn hc h
                  refine go_aload_n dX12_nameOf_162 0 rfl ?_
                  refine pp_getL dX12_nameOf_163 ff_X12_114 sh_401 ?_
                  refine go_bipush (v := 110) dX12_nameOf_166 (by decide) ?_
                  refine go_bipush (v := 101) dX12_nameOf_168 (by decide) ?_
                  refine go_bipush (v := 116) dX12_nameOf_170 (by decide) ?_
                  refine pp_callS (as := [.int 110, .int 101, .int 116]) (st := [.long (μ.2 401 11)]) (rv := (some (.long (fX12_w3 110 101 116)))) (μ1 := μ) (st1 := [.long (fX12_w3 110 101 116), .long (μ.2 401 11)]) dX12_nameOf_172 ll_X12_127 (ctX12_w3  rfl) rfl (Nat.le_of_ble_eq_true rfl) (Nat.le_of_ble_eq_true rfl) (go_Z_up w _) rfl rfl ?_
                  refine go_lcmp dX12_nameOf_175 ?_
                  refine go_if_ne 184 dX12_nameOf_176 (by decide) (fun hc => ?_) (fun hc => ?_)
                  · have h := go_ifn hc h
                    refine go_aload_n dX12_nameOf_184 0 rfl ?_
                    refine pp_getL dX12_nameOf_185 ff_X12_114 sh_401 ?_
                    refine go_bipush (v := 104) dX12_nameOf_188 (by decide) ?_
                    refine go_bipush (v := 111) dX12_nameOf_190 (by decide) ?_
                    refine go_bipush (v := 117) dX12_nameOf_192 (by decide) ?_
                    refine go_bipush (v := 115) dX12_nameOf_194 (by decide) ?_
                    refine go_bipush (v := 101) dX12_nameOf_196 (by decide) ?_
                    refine pp_callS (as := [.int 104, .int 111, .int 117, .int 115, .int 101]) (st := [.long (μ.2 401 11)]) (rv := (some (.long (fX12_w5 104 111 117 115 101)))) (μ1 := μ) (st1 := [.long (fX12_w5 104 111 117 115 101), .long (μ.2 401 11)]) dX12_nameOf_198 ll_X12_135 (ctX12_w5  rfl) rfl (Nat.le_of_ble_eq_true rfl) (Nat.le_of_ble_eq_true rfl) (go_Z_up w _) rfl rfl ?_
                    refine go_lcmp dX12_nameOf_201 ?_
                    refine go_if_ne 210 dX12_nameOf_202 (by decide) (fun hc => ?_) (fun hc => ?_)
                    · have h := go_ifn hc h
                      refine go_iconst (v := (-1)) dX12_nameOf_210 (by decide) ?_
                      subst h
                      exact go_iret dX12_nameOf_211 rfl hK
                    · have h := go_ifp hc h
                      refine go_bipush (v := 8) dX12_nameOf_205 (by decide) ?_
                      refine go_goto 211 dX12_nameOf_207 (by decide) ?_
                      subst h
                      exact go_iret dX12_nameOf_211 rfl hK
                  · have h := go_ifp hc h
                    refine go_bipush (v := 7) dX12_nameOf_179 (by decide) ?_
                    refine go_goto 211 dX12_nameOf_181 (by decide) ?_
                    subst h
                    exact go_iret dX12_nameOf_211 rfl hK
                · have h := go_ifp hc h
                  refine go_bipush (v := 6) dX12_nameOf_159 (by decide) ?_
                  subst h
                  exact go_iret dX12_nameOf_161 rfl hK
              · have h := go_ifp hc h
                refine go_iconst (v := 5) dX12_nameOf_138 (by decide) ?_
                subst h
                exact go_iret dX12_nameOf_139 rfl hK
            · have h := go_ifp hc h
              refine go_iconst (v := 4) dX12_nameOf_113 (by decide) ?_
              subst h
              exact go_iret dX12_nameOf_114 rfl hK
          · have h := go_ifp hc h
            refine go_iconst (v := 3) dX12_nameOf_94 (by decide) ?_
            subst h
            exact go_iret dX12_nameOf_95 rfl hK
        · have h := go_ifp hc h
          refine go_iconst (v := 2) dX12_nameOf_73 (by decide) ?_
          subst h
          exact go_iret dX12_nameOf_74 rfl hK
      · have h := go_ifp hc h
        refine go_iconst (v := 1) dX12_nameOf_50 (by decide) ?_
        subst h
        exact go_iret dX12_nameOf_51 rfl hK
    · have h := go_ifp hc h
      refine go_iconst (v := 0) dX12_nameOf_29 (by decide) ?_
      subst h
      exact go_iret dX12_nameOf_30 rfl hK
  · have h := go_ifn hc h
    refine go_iconst (v := (-1)) dX12_nameOf_8 (by decide) ?_
    subst h
    exact go_iret dX12_nameOf_9 rfl hK
theorem ctX12_nameOf {w : go_Wd} {tx : Nat} {μ : PM}  {r : Int32}  (h : fX12_nameOf μ = r) : Ct w 5 0 0 mtX12_nameOf [.ref 401] (go_mk tx μ) (fun r' M' => r' = some (.int r) ∧ M' = go_mk tx μ) :=
  go_entry rfl (by decide) (Nat.le_of_ble_eq_true rfl) (cmX12_nameOf w tx _ μ  _ h ⟨rfl, rfl⟩)
def fX12_isOf (μ : PM) (a0 : Int32) : Int32 :=
  (if a0 < 6 then 1 else (if a0 = 6 then (if (μ.1 401 14) = 0 then 0 else 1) else (if (μ.1 401 14) = 2 then 1 else 0)))
set_option maxRecDepth 20000 in
set_option maxHeartbeats 4000000 in
theorem cmX12_isOf (w : go_Wd) (tx : Nat) (Q : Option Value → go_M → Prop) (μ : PM) (a0 : Int32) (out : Int32) (h : fX12_isOf μ a0 = out) (hK : Q (some (.int out)) (go_mk tx μ)) : Go w 0 0 0 mtX12_isOf 0 [(0, .ref 401), (1, .int a0)] [] (go_mk tx μ) (go_Z w Q) := by
  unfold fX12_isOf at h
  refine go_iload_n dX12_isOf_0 1 rfl ?_
  refine go_bipush (v := 6) dX12_isOf_1 (by decide) ?_
  refine go_icmp_lt 30 dX12_isOf_3 (by decide) (fun hc => ?_) (fun hc => ?_)
  · have h := go_ifp hc h
    refine go_iconst (v := 1) dX12_isOf_30 (by decide) ?_
    refine go_goto 35 dX12_isOf_31 (by decide) ?_
    subst h
    exact go_zret dX12_isOf_35 rfl (Or.inr rfl) hK
  · have h := go_ifn hc h
    refine go_iload_n dX12_isOf_6 1 rfl ?_
    refine go_bipush (v := 6) dX12_isOf_7 (by decide) ?_
    refine go_icmp_ne 22 dX12_isOf_9 (by decide) (fun hc => ?_) (fun hc => ?_)
    · have h := go_ifn hc h
      refine go_aload_n dX12_isOf_22 0 rfl ?_
      refine pp_getI dX12_isOf_23 ff_X12_149 (by decide) sh_401 ?_
      refine go_iconst (v := 2) dX12_isOf_26 (by decide) ?_
      refine go_icmp_ne 34 dX12_isOf_27 (by decide) (fun hc => ?_) (fun hc => ?_)
      · have h := go_ifn hc h
        refine go_iconst (v := 0) dX12_isOf_34 (by decide) ?_
        subst h
        exact go_zret dX12_isOf_35 rfl (Or.inl rfl) hK
      · have h := go_ifp hc h
        refine go_iconst (v := 1) dX12_isOf_30 (by decide) ?_
        refine go_goto 35 dX12_isOf_31 (by decide) ?_
        subst h
        exact go_zret dX12_isOf_35 rfl (Or.inr rfl) hK
    · have h := go_ifp hc h
      refine go_aload_n dX12_isOf_12 0 rfl ?_
      refine pp_getI dX12_isOf_13 ff_X12_149 (by decide) sh_401 ?_
      refine go_if_eq 34 dX12_isOf_16 (by decide) (fun hc => ?_) (fun hc => ?_)
      · have h := go_ifp hc h
        refine go_iconst (v := 0) dX12_isOf_34 (by decide) ?_
        subst h
        exact go_zret dX12_isOf_35 rfl (Or.inl rfl) hK
      · have h := go_ifn hc h
        refine go_goto 30 dX12_isOf_19 (by decide) ?_
        refine go_iconst (v := 1) dX12_isOf_30 (by decide) ?_
        refine go_goto 35 dX12_isOf_31 (by decide) ?_
        subst h
        exact go_zret dX12_isOf_35 rfl (Or.inr rfl) hK
theorem ctX12_isOf {w : go_Wd} {tx : Nat} {μ : PM} {a0 : Int32} {r : Int32}  (h : fX12_isOf μ a0 = r) : Ct w 0 0 0 mtX12_isOf [.ref 401, .int a0] (go_mk tx μ) (fun r' M' => r' = some (.int r) ∧ M' = go_mk tx μ) :=
  go_entry rfl (by decide) (Nat.le_of_ble_eq_true rfl) (cmX12_isOf w tx _ μ a0 _ h ⟨rfl, rfl⟩)
theorem bzX12_isOf {μ : PM} {a0 : Int32} {r : Int32} (h : fX12_isOf μ a0 = r) : r = 0 ∨ r = 1 := by
  subst h
  show go_bi _
  unfold fX12_isOf
  repeat' first | exact bi_0 | exact bi_1 | with_reducible apply bi_ite
def fX12_rank (a0 : Int32) : Int32 :=
  (if a0 < 40 then (if a0 = 22 then 1 else (if a0 = 21 then 2 else (if a0 = 20 then 3 else (if a0 < 10 then (if a0 = 5 then 7 else (if a0 = 2 then 7 else (if a0 = 4 then 7 else (if a0 < 8 then 5 else 6)))) else 4)))) else 0)
set_option maxRecDepth 20000 in
set_option maxHeartbeats 4000000 in
theorem cmX12_rank (w : go_Wd) (tx : Nat) (Q : Option Value → go_M → Prop) (μ : PM) (a0 : Int32) (out : Int32) (h : fX12_rank a0 = out) (hK : Q (some (.int out)) (go_mk tx μ)) : Go w 0 0 0 mtX12_rank 0 [(0, .int a0)] [] (go_mk tx μ) (go_Z w Q) := by
  unfold fX12_rank at h
  refine go_iload_n dX12_rank_0 0 rfl ?_
  refine go_bipush (v := 40) dX12_rank_1 (by decide) ?_
  refine go_icmp_lt 10 dX12_rank_3 (by decide) (fun hc => ?_) (fun hc => ?_)
  · have h := go_ifp hc h
    refine go_iload_n dX12_rank_10 0 rfl ?_
    refine go_bipush (v := 22) dX12_rank_11 (by decide) ?_
    refine go_icmp_ne 20 dX12_rank_13 (by decide) (fun hc => ?_) (fun hc => ?_)
    · have h := go_ifn hc h
      refine go_iload_n dX12_rank_20 0 rfl ?_
      refine go_bipush (v := 21) dX12_rank_21 (by decide) ?_
      refine go_icmp_ne 30 dX12_rank_23 (by decide) (fun hc => ?_) (fun hc => ?_)
      · have h := go_ifn hc h
        refine go_iload_n dX12_rank_30 0 rfl ?_
        refine go_bipush (v := 20) dX12_rank_31 (by decide) ?_
        refine go_icmp_ne 40 dX12_rank_33 (by decide) (fun hc => ?_) (fun hc => ?_)
        · have h := go_ifn hc h
          refine go_iload_n dX12_rank_40 0 rfl ?_
          refine go_bipush (v := 10) dX12_rank_41 (by decide) ?_
          refine go_icmp_lt 50 dX12_rank_43 (by decide) (fun hc => ?_) (fun hc => ?_)
          · have h := go_ifp hc h
            refine go_iload_n dX12_rank_50 0 rfl ?_
            refine go_iconst (v := 5) dX12_rank_51 (by decide) ?_
            refine go_icmp_eq 65 dX12_rank_52 (by decide) (fun hc => ?_) (fun hc => ?_)
            · have h := go_ifp hc h
              refine go_bipush (v := 7) dX12_rank_65 (by decide) ?_
              refine go_goto 82 dX12_rank_67 (by decide) ?_
              subst h
              exact go_iret dX12_rank_82 rfl hK
            · have h := go_ifn hc h
              refine go_iload_n dX12_rank_55 0 rfl ?_
              refine go_iconst (v := 2) dX12_rank_56 (by decide) ?_
              refine go_icmp_eq 65 dX12_rank_57 (by decide) (fun hc => ?_) (fun hc => ?_)
              · have h := go_ifp hc h
                refine go_bipush (v := 7) dX12_rank_65 (by decide) ?_
                refine go_goto 82 dX12_rank_67 (by decide) ?_
                subst h
                exact go_iret dX12_rank_82 rfl hK
              · have h := go_ifn hc h
                refine go_iload_n dX12_rank_60 0 rfl ?_
                refine go_iconst (v := 4) dX12_rank_61 (by decide) ?_
                refine go_icmp_ne 70 dX12_rank_62 (by decide) (fun hc => ?_) (fun hc => ?_)
                · have h := go_ifn hc h
                  refine go_iload_n dX12_rank_70 0 rfl ?_
                  refine go_bipush (v := 8) dX12_rank_71 (by decide) ?_
                  refine go_icmp_lt 81 dX12_rank_73 (by decide) (fun hc => ?_) (fun hc => ?_)
                  · have h := go_ifp hc h
                    refine go_iconst (v := 5) dX12_rank_81 (by decide) ?_
                    subst h
                    exact go_iret dX12_rank_82 rfl hK
                  · have h := go_ifn hc h
                    refine go_bipush (v := 6) dX12_rank_76 (by decide) ?_
                    refine go_goto 82 dX12_rank_78 (by decide) ?_
                    subst h
                    exact go_iret dX12_rank_82 rfl hK
                · have h := go_ifp hc h
                  refine go_bipush (v := 7) dX12_rank_65 (by decide) ?_
                  refine go_goto 82 dX12_rank_67 (by decide) ?_
                  subst h
                  exact go_iret dX12_rank_82 rfl hK
          · have h := go_ifn hc h
            refine go_iconst (v := 4) dX12_rank_46 (by decide) ?_
            refine go_goto 82 dX12_rank_47 (by decide) ?_
            subst h
            exact go_iret dX12_rank_82 rfl hK
        · have h := go_ifp hc h
          refine go_iconst (v := 3) dX12_rank_36 (by decide) ?_
          refine go_goto 82 dX12_rank_37 (by decide) ?_
          subst h
          exact go_iret dX12_rank_82 rfl hK
      · have h := go_ifp hc h
        refine go_iconst (v := 2) dX12_rank_26 (by decide) ?_
        refine go_goto 82 dX12_rank_27 (by decide) ?_
        subst h
        exact go_iret dX12_rank_82 rfl hK
    · have h := go_ifp hc h
      refine go_iconst (v := 1) dX12_rank_16 (by decide) ?_
      refine go_goto 82 dX12_rank_17 (by decide) ?_
      subst h
      exact go_iret dX12_rank_82 rfl hK
  · have h := go_ifn hc h
    refine go_iconst (v := 0) dX12_rank_6 (by decide) ?_
    refine go_goto 82 dX12_rank_7 (by decide) ?_
    subst h
    exact go_iret dX12_rank_82 rfl hK
theorem ctX12_rank {w : go_Wd} {tx : Nat} {μ : PM} {a0 : Int32} {r : Int32}  (h : fX12_rank a0 = r) : Ct w 0 0 0 mtX12_rank [.int a0] (go_mk tx μ) (fun r' M' => r' = some (.int r) ∧ M' = go_mk tx μ) :=
  go_entry rfl (by decide) (Nat.le_of_ble_eq_true rfl) (cmX12_rank w tx _ μ a0 _ h ⟨rfl, rfl⟩)
def jjX12_settle_80_0 (μ : PM) (a0 : Int32)   : Option ((PM) ⊕ (PM)) :=
  go_let (pm_wi μ 401 17 ((μ.1 401 17) - 1)) fun μ12 => some (.inl μ12)
def lbX12_settle_0 (a0 : Int32)   (μ : PM) : Option ((PM) ⊕ (PM)) :=
  (if (μ.1 401 16) ≤ 0 then some (.inr (μ)) else go_chk ((μ.1 401 16) - 1) 160 <| (if (fX12_rank (μ.1 406 (((μ.1 401 16) - 1) : Int32).toNatClampNeg)) < a0 then some (.inr (μ)) else go_let (pm_wi μ 401 16 ((μ.1 401 16) - 1)) fun μ8 => go_chk (μ8.1 401 16) 160 <| (fX12_emit μ8 (μ8.1 406 ((μ8.1 401 16) : Int32).toNatClampNeg) 0).bind fun q10 => go_chk (q10.1 401 16) 160 <| (if (fX12_rank (q10.1 406 ((q10.1 401 16) : Int32).toNatClampNeg)) = 7 then jjX12_settle_80_0 q10 a0 else go_chk (q10.1 401 16) 160 <| (if (q10.1 406 ((q10.1 401 16) : Int32).toNatClampNeg) = 20 then jjX12_settle_80_0 q10 a0 else some (.inl q10)))))
def jjX12_settle_80 (μ : PM) (a0 : Int32)   : Option (PM) :=
  go_let (pm_wi μ 401 17 ((μ.1 401 17) - 1)) fun μ6 => ((lp (fun s => lbX12_settle_0 a0 s) go_fuel μ6).bind fun ρ14 => some ρ14)
def jjX12_settle_80_0_b (μ : PM) (a0 : Int32)   : Option ((PM) ⊕ (PM)) :=
  go_let (pm_wi μ 401 17 ((μ.1 401 17) - 1)) fun μ21 => some (.inl μ21)
def lbX12_settle_0_b (a0 : Int32)   (μ : PM) : Option ((PM) ⊕ (PM)) :=
  (if (μ.1 401 16) ≤ 0 then some (.inr (μ)) else go_chk ((μ.1 401 16) - 1) 160 <| (if (fX12_rank (μ.1 406 (((μ.1 401 16) - 1) : Int32).toNatClampNeg)) < a0 then some (.inr (μ)) else go_let (pm_wi μ 401 16 ((μ.1 401 16) - 1)) fun μ17 => go_chk (μ17.1 401 16) 160 <| (fX12_emit μ17 (μ17.1 406 ((μ17.1 401 16) : Int32).toNatClampNeg) 0).bind fun q19 => go_chk (q19.1 401 16) 160 <| (if (fX12_rank (q19.1 406 ((q19.1 401 16) : Int32).toNatClampNeg)) = 7 then jjX12_settle_80_0_b q19 a0 else go_chk (q19.1 401 16) 160 <| (if (q19.1 406 ((q19.1 401 16) : Int32).toNatClampNeg) = 20 then jjX12_settle_80_0_b q19 a0 else some (.inl q19)))))
def fX12_settle (μ : PM) (a0 : Int32) : Option (PM) :=
  (if (μ.1 401 16) ≤ 0 then some (μ) else go_chk ((μ.1 401 16) - 1) 160 <| (if (fX12_rank (μ.1 406 (((μ.1 401 16) - 1) : Int32).toNatClampNeg)) < a0 then some (μ) else go_let (pm_wi μ 401 16 ((μ.1 401 16) - 1)) fun μ2 => go_chk (μ2.1 401 16) 160 <| (fX12_emit μ2 (μ2.1 406 ((μ2.1 401 16) : Int32).toNatClampNeg) 0).bind fun q4 => go_chk (q4.1 401 16) 160 <| (if (fX12_rank (q4.1 406 ((q4.1 401 16) : Int32).toNatClampNeg)) = 7 then jjX12_settle_80 q4 a0 else go_chk (q4.1 401 16) 160 <| (if (q4.1 406 ((q4.1 401 16) : Int32).toNatClampNeg) = 20 then jjX12_settle_80 q4 a0 else ((lp (fun s => lbX12_settle_0_b a0 s) go_fuel q4).bind fun ρ23 => some ρ23)))))
def ggX12_settle_0 (w : go_Wd) (tx : Nat) (Q : Option Value → go_M → Prop) (a0 : Int32)  (s : PM) : Prop := Go w 1 0 0 mtX12_settle 0 [(0, .ref 401), (1, .int a0)] [] (go_mk tx s) (go_Z w Q)
def ggX12_settle_0_b (w : go_Wd) (tx : Nat) (Q : Option Value → go_M → Prop) (a0 : Int32)  (s : PM) : Prop := Go w 1 0 0 mtX12_settle 0 [(0, .ref 401), (1, .int a0)] [] (go_mk tx s) (go_Z w Q)
def eeX12_settle_0 (w : go_Wd) (tx : Nat) (Q : Option Value → go_M → Prop) (a0 : Int32)  (y : PM) : Prop := Q none (go_mk tx y)
def eeX12_settle_0_b (w : go_Wd) (tx : Nat) (Q : Option Value → go_M → Prop) (a0 : Int32)  (y : PM) : Prop := Q none (go_mk tx y)
set_option maxRecDepth 20000 in
set_option maxHeartbeats 4000000 in
theorem jqX12_settle_80_0 (w : go_Wd) (tx : Nat) (Q : Option Value → go_M → Prop) (μ : PM) (a0 : Int32)     (out : (PM) ⊕ (PM)) (h : jjX12_settle_80_0 μ a0   = some out) (hK : go_out (ggX12_settle_0 w tx Q a0 ) (eeX12_settle_0 w tx Q a0 ) out) : Go w 1 0 0 mtX12_settle 80 [(0, .ref 401), (1, .int a0)] [] (go_mk tx μ) (go_Z w Q) := by
  unfold jjX12_settle_80_0 at h
  refine go_aload_n dX12_settle_80 0 rfl ?_
  refine go_dup dX12_settle_81 rfl ?_
  refine pp_getI dX12_settle_82 ff_X12_162 (by decide) sh_401 ?_
  refine go_iconst (v := 1) dX12_settle_85 (by decide) ?_
  refine go_isub dX12_settle_86 ?_
  obtain ⟨μ12, hμ12, h⟩ := go_let_e h
  refine pp_putI dX12_settle_87 ff_X12_162 (Or.inl rfl) sh_401 hμ12 ?_
  refine go_goto 0 dX12_settle_90 (by decide) ?_
  cases h
  have hK : Go w 1 0 0 mtX12_settle 0 [(0, .ref 401), (1, .int a0)] [] (go_mk tx μ12) (go_Z w Q) := hK
  exact go_pick [0, 1] rfl hK
set_option maxRecDepth 20000 in
set_option maxHeartbeats 4000000 in
theorem lqX12_settle_0 (w : go_Wd) (tx : Nat) (Q : Option Value → go_M → Prop) (a0 : Int32)    (μ : PM) (out : (PM) ⊕ (PM)) (h : lbX12_settle_0 a0  μ = some out) (hK : go_out (ggX12_settle_0 w tx Q a0 ) (eeX12_settle_0 w tx Q a0 ) out) : ggX12_settle_0 w tx Q a0  μ := by
  unfold lbX12_settle_0 at h
  show Go w 1 0 0 mtX12_settle 0 [(0, .ref 401), (1, .int a0)] [] (go_mk tx μ) (go_Z w Q)
  refine go_aload_n dX12_settle_0 0 rfl ?_
  refine pp_getI dX12_settle_1 ff_X12_152 (by decide) sh_401 ?_
  refine go_if_le 93 dX12_settle_4 (by decide) (fun hc => ?_) (fun hc => ?_)
  · have h := go_ifp hc h
    cases h
    exact go_vret dX12_settle_93 rfl hK
  · have h := go_ifn hc h
    refine go_aload_n dX12_settle_7 0 rfl ?_
    refine pp_getR dX12_settle_8 ff_X12_29 (Or.inr ⟨_, rfl⟩) sh_401 rf_401_15 ?_
    refine go_aload_n dX12_settle_11 0 rfl ?_
    refine pp_getI dX12_settle_12 ff_X12_152 (by decide) sh_401 ?_
    refine go_iconst (v := 1) dX12_settle_15 (by decide) ?_
    refine go_isub dX12_settle_16 ?_
    obtain ⟨hz7, h⟩ := go_chk_e h
    refine pp_ild dX12_settle_17 sh_406 hz7 ?_
    refine pp_callS (as := [.int (μ.1 406 (((μ.1 401 16) - 1) : Int32).toNatClampNeg)]) (st := []) (rv := (some (.int (fX12_rank (μ.1 406 (((μ.1 401 16) - 1) : Int32).toNatClampNeg))))) (μ1 := μ) (st1 := [.int (fX12_rank (μ.1 406 (((μ.1 401 16) - 1) : Int32).toNatClampNeg))]) dX12_settle_18 ll_X12_155 (ctX12_rank  rfl) rfl (Nat.le_of_ble_eq_true rfl) (Nat.le_of_ble_eq_true rfl) (go_Z_up w _) rfl rfl ?_
    refine go_iload_n dX12_settle_21 1 rfl ?_
    refine go_icmp_lt 93 dX12_settle_22 (by decide) (fun hc => ?_) (fun hc => ?_)
    · have h := go_ifp hc h
      cases h
      exact go_vret dX12_settle_93 rfl hK
    · have h := go_ifn hc h
      refine go_aload_n dX12_settle_25 0 rfl ?_
      refine go_dup dX12_settle_26 rfl ?_
      refine pp_getI dX12_settle_27 ff_X12_152 (by decide) sh_401 ?_
      refine go_iconst (v := 1) dX12_settle_30 (by decide) ?_
      refine go_isub dX12_settle_31 ?_
      obtain ⟨μ8, hμ8, h⟩ := go_let_e h
      refine pp_putI dX12_settle_32 ff_X12_152 (Or.inl rfl) sh_401 hμ8 ?_
      refine go_aload_n dX12_settle_35 0 rfl ?_
      refine go_aload_n dX12_settle_36 0 rfl ?_
      refine pp_getR dX12_settle_37 ff_X12_29 (Or.inr ⟨_, rfl⟩) sh_401 rf_401_15 ?_
      refine go_aload_n dX12_settle_40 0 rfl ?_
      refine pp_getI dX12_settle_41 ff_X12_152 (by decide) sh_401 ?_
      obtain ⟨hz9, h⟩ := go_chk_e h
      refine pp_ild dX12_settle_44 sh_406 hz9 ?_
      refine go_iconst (v := 0) dX12_settle_45 (by decide) ?_
      obtain ⟨q10, hq10, h⟩ := go_bind h
      refine pp_callV (as := [.int (μ8.1 406 ((μ8.1 401 16) : Int32).toNatClampNeg), .int 0]) (st := []) (rv := none) (μ1 := q10) (st1 := []) dX12_settle_46 ll_X12_158 sh_401 (by decide) rfl (ctX12_emit  hq10) rfl (Nat.le_of_ble_eq_true rfl) (Nat.le_of_ble_eq_true rfl) (go_Z_up w _) rfl rfl ?_
      refine go_aload_n dX12_settle_49 0 rfl ?_
      refine pp_getR dX12_settle_50 ff_X12_29 (Or.inr ⟨_, rfl⟩) sh_401 rf_401_15 ?_
      refine go_aload_n dX12_settle_53 0 rfl ?_
      refine pp_getI dX12_settle_54 ff_X12_152 (by decide) sh_401 ?_
      obtain ⟨hz11, h⟩ := go_chk_e h
      refine pp_ild dX12_settle_57 sh_406 hz11 ?_
      refine pp_callS (as := [.int (q10.1 406 ((q10.1 401 16) : Int32).toNatClampNeg)]) (st := []) (rv := (some (.int (fX12_rank (q10.1 406 ((q10.1 401 16) : Int32).toNatClampNeg))))) (μ1 := q10) (st1 := [.int (fX12_rank (q10.1 406 ((q10.1 401 16) : Int32).toNatClampNeg))]) dX12_settle_58 ll_X12_155 (ctX12_rank  rfl) rfl (Nat.le_of_ble_eq_true rfl) (Nat.le_of_ble_eq_true rfl) (go_Z_up w _) rfl rfl ?_
      refine go_bipush (v := 7) dX12_settle_61 (by decide) ?_
      refine go_icmp_eq 80 dX12_settle_63 (by decide) (fun hc => ?_) (fun hc => ?_)
      · have h := go_ifp hc h
        refine go_pick [0, 1] rfl ?_
        exact jqX12_settle_80_0 w tx Q q10 a0     _ h hK
      · have h := go_ifn hc h
        refine go_aload_n dX12_settle_66 0 rfl ?_
        refine pp_getR dX12_settle_67 ff_X12_29 (Or.inr ⟨_, rfl⟩) sh_401 rf_401_15 ?_
        refine go_aload_n dX12_settle_70 0 rfl ?_
        refine pp_getI dX12_settle_71 ff_X12_152 (by decide) sh_401 ?_
        obtain ⟨hz13, h⟩ := go_chk_e h
        refine pp_ild dX12_settle_74 sh_406 hz13 ?_
        refine go_bipush (v := 20) dX12_settle_75 (by decide) ?_
        refine go_icmp_ne 0 dX12_settle_77 (by decide) (fun hc => ?_) (fun hc => ?_)
        · have h := go_ifn hc h
          cases h
          have hK : Go w 1 0 0 mtX12_settle 0 [(0, .ref 401), (1, .int a0)] [] (go_mk tx q10) (go_Z w Q) := hK
          exact go_pick [0, 1] rfl hK
        · have h := go_ifp hc h
          refine go_pick [0, 1] rfl ?_
          exact jqX12_settle_80_0 w tx Q q10 a0     _ h hK
set_option maxRecDepth 20000 in
set_option maxHeartbeats 4000000 in
theorem jqX12_settle_80 (w : go_Wd) (tx : Nat) (Q : Option Value → go_M → Prop) (μ : PM) (a0 : Int32)     (out : PM) (h : jjX12_settle_80 μ a0   = some out) (hK : Q none (go_mk tx out)) : Go w 1 0 0 mtX12_settle 80 [(0, .ref 401), (1, .int a0)] [] (go_mk tx μ) (go_Z w Q) := by
  unfold jjX12_settle_80 at h
  refine go_aload_n dX12_settle_80 0 rfl ?_
  refine go_dup dX12_settle_81 rfl ?_
  refine pp_getI dX12_settle_82 ff_X12_162 (by decide) sh_401 ?_
  refine go_iconst (v := 1) dX12_settle_85 (by decide) ?_
  refine go_isub dX12_settle_86 ?_
  obtain ⟨μ6, hμ6, h⟩ := go_let_e h
  refine pp_putI dX12_settle_87 ff_X12_162 (Or.inl rfl) sh_401 hμ6 ?_
  refine go_goto 0 dX12_settle_90 (by decide) ?_
  obtain ⟨ρ14, hρ14, h⟩ := go_bind h
  refine go_pick [0, 1] rfl ?_
  refine go_lp (G := ggX12_settle_0 w tx Q a0 ) (E := eeX12_settle_0 w tx Q a0 ) (fun s out h hK => lqX12_settle_0 w tx Q a0   s out h hK) go_fuel μ6 ρ14 hρ14 ?_
  cases h
  exact hK
set_option maxRecDepth 20000 in
set_option maxHeartbeats 4000000 in
theorem jqX12_settle_80_0_b (w : go_Wd) (tx : Nat) (Q : Option Value → go_M → Prop) (μ : PM) (a0 : Int32)     (out : (PM) ⊕ (PM)) (h : jjX12_settle_80_0_b μ a0   = some out) (hK : go_out (ggX12_settle_0_b w tx Q a0 ) (eeX12_settle_0_b w tx Q a0 ) out) : Go w 1 0 0 mtX12_settle 80 [(0, .ref 401), (1, .int a0)] [] (go_mk tx μ) (go_Z w Q) := by
  unfold jjX12_settle_80_0_b at h
  refine go_aload_n dX12_settle_80 0 rfl ?_
  refine go_dup dX12_settle_81 rfl ?_
  refine pp_getI dX12_settle_82 ff_X12_162 (by decide) sh_401 ?_
  refine go_iconst (v := 1) dX12_settle_85 (by decide) ?_
  refine go_isub dX12_settle_86 ?_
  obtain ⟨μ21, hμ21, h⟩ := go_let_e h
  refine pp_putI dX12_settle_87 ff_X12_162 (Or.inl rfl) sh_401 hμ21 ?_
  refine go_goto 0 dX12_settle_90 (by decide) ?_
  cases h
  have hK : Go w 1 0 0 mtX12_settle 0 [(0, .ref 401), (1, .int a0)] [] (go_mk tx μ21) (go_Z w Q) := hK
  exact go_pick [0, 1] rfl hK
set_option maxRecDepth 20000 in
set_option maxHeartbeats 4000000 in
theorem lqX12_settle_0_b (w : go_Wd) (tx : Nat) (Q : Option Value → go_M → Prop) (a0 : Int32)    (μ : PM) (out : (PM) ⊕ (PM)) (h : lbX12_settle_0_b a0  μ = some out) (hK : go_out (ggX12_settle_0_b w tx Q a0 ) (eeX12_settle_0_b w tx Q a0 ) out) : ggX12_settle_0_b w tx Q a0  μ := by
  unfold lbX12_settle_0_b at h
  show Go w 1 0 0 mtX12_settle 0 [(0, .ref 401), (1, .int a0)] [] (go_mk tx μ) (go_Z w Q)
  refine go_aload_n dX12_settle_0 0 rfl ?_
  refine pp_getI dX12_settle_1 ff_X12_152 (by decide) sh_401 ?_
  refine go_if_le 93 dX12_settle_4 (by decide) (fun hc => ?_) (fun hc => ?_)
  · have h := go_ifp hc h
    cases h
    exact go_vret dX12_settle_93 rfl hK
  · have h := go_ifn hc h
    refine go_aload_n dX12_settle_7 0 rfl ?_
    refine pp_getR dX12_settle_8 ff_X12_29 (Or.inr ⟨_, rfl⟩) sh_401 rf_401_15 ?_
    refine go_aload_n dX12_settle_11 0 rfl ?_
    refine pp_getI dX12_settle_12 ff_X12_152 (by decide) sh_401 ?_
    refine go_iconst (v := 1) dX12_settle_15 (by decide) ?_
    refine go_isub dX12_settle_16 ?_
    obtain ⟨hz16, h⟩ := go_chk_e h
    refine pp_ild dX12_settle_17 sh_406 hz16 ?_
    refine pp_callS (as := [.int (μ.1 406 (((μ.1 401 16) - 1) : Int32).toNatClampNeg)]) (st := []) (rv := (some (.int (fX12_rank (μ.1 406 (((μ.1 401 16) - 1) : Int32).toNatClampNeg))))) (μ1 := μ) (st1 := [.int (fX12_rank (μ.1 406 (((μ.1 401 16) - 1) : Int32).toNatClampNeg))]) dX12_settle_18 ll_X12_155 (ctX12_rank  rfl) rfl (Nat.le_of_ble_eq_true rfl) (Nat.le_of_ble_eq_true rfl) (go_Z_up w _) rfl rfl ?_
    refine go_iload_n dX12_settle_21 1 rfl ?_
    refine go_icmp_lt 93 dX12_settle_22 (by decide) (fun hc => ?_) (fun hc => ?_)
    · have h := go_ifp hc h
      cases h
      exact go_vret dX12_settle_93 rfl hK
    · have h := go_ifn hc h
      refine go_aload_n dX12_settle_25 0 rfl ?_
      refine go_dup dX12_settle_26 rfl ?_
      refine pp_getI dX12_settle_27 ff_X12_152 (by decide) sh_401 ?_
      refine go_iconst (v := 1) dX12_settle_30 (by decide) ?_
      refine go_isub dX12_settle_31 ?_
      obtain ⟨μ17, hμ17, h⟩ := go_let_e h
      refine pp_putI dX12_settle_32 ff_X12_152 (Or.inl rfl) sh_401 hμ17 ?_
      refine go_aload_n dX12_settle_35 0 rfl ?_
      refine go_aload_n dX12_settle_36 0 rfl ?_
      refine pp_getR dX12_settle_37 ff_X12_29 (Or.inr ⟨_, rfl⟩) sh_401 rf_401_15 ?_
      refine go_aload_n dX12_settle_40 0 rfl ?_
      refine pp_getI dX12_settle_41 ff_X12_152 (by decide) sh_401 ?_
      obtain ⟨hz18, h⟩ := go_chk_e h
      refine pp_ild dX12_settle_44 sh_406 hz18 ?_
      refine go_iconst (v := 0) dX12_settle_45 (by decide) ?_
      obtain ⟨q19, hq19, h⟩ := go_bind h
      refine pp_callV (as := [.int (μ17.1 406 ((μ17.1 401 16) : Int32).toNatClampNeg), .int 0]) (st := []) (rv := none) (μ1 := q19) (st1 := []) dX12_settle_46 ll_X12_158 sh_401 (by decide) rfl (ctX12_emit  hq19) rfl (Nat.le_of_ble_eq_true rfl) (Nat.le_of_ble_eq_true rfl) (go_Z_up w _) rfl rfl ?_
      refine go_aload_n dX12_settle_49 0 rfl ?_
      refine pp_getR dX12_settle_50 ff_X12_29 (Or.inr ⟨_, rfl⟩) sh_401 rf_401_15 ?_
      refine go_aload_n dX12_settle_53 0 rfl ?_
      refine pp_getI dX12_settle_54 ff_X12_152 (by decide) sh_401 ?_
      obtain ⟨hz20, h⟩ := go_chk_e h
      refine pp_ild dX12_settle_57 sh_406 hz20 ?_
      refine pp_callS (as := [.int (q19.1 406 ((q19.1 401 16) : Int32).toNatClampNeg)]) (st := []) (rv := (some (.int (fX12_rank (q19.1 406 ((q19.1 401 16) : Int32).toNatClampNeg))))) (μ1 := q19) (st1 := [.int (fX12_rank (q19.1 406 ((q19.1 401 16) : Int32).toNatClampNeg))]) dX12_settle_58 ll_X12_155 (ctX12_rank  rfl) rfl (Nat.le_of_ble_eq_true rfl) (Nat.le_of_ble_eq_true rfl) (go_Z_up w _) rfl rfl ?_
      refine go_bipush (v := 7) dX12_settle_61 (by decide) ?_
      refine go_icmp_eq 80 dX12_settle_63 (by decide) (fun hc => ?_) (fun hc => ?_)
      · have h := go_ifp hc h
        refine go_pick [0, 1] rfl ?_
        exact jqX12_settle_80_0_b w tx Q q19 a0     _ h hK
      · have h := go_ifn hc h
        refine go_aload_n dX12_settle_66 0 rfl ?_
        refine pp_getR dX12_settle_67 ff_X12_29 (Or.inr ⟨_, rfl⟩) sh_401 rf_401_15 ?_
        refine go_aload_n dX12_settle_70 0 rfl ?_
        refine pp_getI dX12_settle_71 ff_X12_152 (by decide) sh_401 ?_
        obtain ⟨hz22, h⟩ := go_chk_e h
        refine pp_ild dX12_settle_74 sh_406 hz22 ?_
        refine go_bipush (v := 20) dX12_settle_75 (by decide) ?_
        refine go_icmp_ne 0 dX12_settle_77 (by decide) (fun hc => ?_) (fun hc => ?_)
        · have h := go_ifn hc h
          cases h
          have hK : Go w 1 0 0 mtX12_settle 0 [(0, .ref 401), (1, .int a0)] [] (go_mk tx q19) (go_Z w Q) := hK
          exact go_pick [0, 1] rfl hK
        · have h := go_ifp hc h
          refine go_pick [0, 1] rfl ?_
          exact jqX12_settle_80_0_b w tx Q q19 a0     _ h hK
set_option maxRecDepth 20000 in
set_option maxHeartbeats 4000000 in
theorem cmX12_settle (w : go_Wd) (tx : Nat) (Q : Option Value → go_M → Prop) (μ : PM) (a0 : Int32) (out : PM) (h : fX12_settle μ a0 = some out) (hK : Q none (go_mk tx out)) : Go w 1 0 0 mtX12_settle 0 [(0, .ref 401), (1, .int a0)] [] (go_mk tx μ) (go_Z w Q) := by
  unfold fX12_settle at h
  refine go_aload_n dX12_settle_0 0 rfl ?_
  refine pp_getI dX12_settle_1 ff_X12_152 (by decide) sh_401 ?_
  refine go_if_le 93 dX12_settle_4 (by decide) (fun hc => ?_) (fun hc => ?_)
  · have h := go_ifp hc h
    cases h
    exact go_vret dX12_settle_93 rfl hK
  · have h := go_ifn hc h
    refine go_aload_n dX12_settle_7 0 rfl ?_
    refine pp_getR dX12_settle_8 ff_X12_29 (Or.inr ⟨_, rfl⟩) sh_401 rf_401_15 ?_
    refine go_aload_n dX12_settle_11 0 rfl ?_
    refine pp_getI dX12_settle_12 ff_X12_152 (by decide) sh_401 ?_
    refine go_iconst (v := 1) dX12_settle_15 (by decide) ?_
    refine go_isub dX12_settle_16 ?_
    obtain ⟨hz1, h⟩ := go_chk_e h
    refine pp_ild dX12_settle_17 sh_406 hz1 ?_
    refine pp_callS (as := [.int (μ.1 406 (((μ.1 401 16) - 1) : Int32).toNatClampNeg)]) (st := []) (rv := (some (.int (fX12_rank (μ.1 406 (((μ.1 401 16) - 1) : Int32).toNatClampNeg))))) (μ1 := μ) (st1 := [.int (fX12_rank (μ.1 406 (((μ.1 401 16) - 1) : Int32).toNatClampNeg))]) dX12_settle_18 ll_X12_155 (ctX12_rank  rfl) rfl (Nat.le_of_ble_eq_true rfl) (Nat.le_of_ble_eq_true rfl) (go_Z_up w _) rfl rfl ?_
    refine go_iload_n dX12_settle_21 1 rfl ?_
    refine go_icmp_lt 93 dX12_settle_22 (by decide) (fun hc => ?_) (fun hc => ?_)
    · have h := go_ifp hc h
      cases h
      exact go_vret dX12_settle_93 rfl hK
    · have h := go_ifn hc h
      refine go_aload_n dX12_settle_25 0 rfl ?_
      refine go_dup dX12_settle_26 rfl ?_
      refine pp_getI dX12_settle_27 ff_X12_152 (by decide) sh_401 ?_
      refine go_iconst (v := 1) dX12_settle_30 (by decide) ?_
      refine go_isub dX12_settle_31 ?_
      obtain ⟨μ2, hμ2, h⟩ := go_let_e h
      refine pp_putI dX12_settle_32 ff_X12_152 (Or.inl rfl) sh_401 hμ2 ?_
      refine go_aload_n dX12_settle_35 0 rfl ?_
      refine go_aload_n dX12_settle_36 0 rfl ?_
      refine pp_getR dX12_settle_37 ff_X12_29 (Or.inr ⟨_, rfl⟩) sh_401 rf_401_15 ?_
      refine go_aload_n dX12_settle_40 0 rfl ?_
      refine pp_getI dX12_settle_41 ff_X12_152 (by decide) sh_401 ?_
      obtain ⟨hz3, h⟩ := go_chk_e h
      refine pp_ild dX12_settle_44 sh_406 hz3 ?_
      refine go_iconst (v := 0) dX12_settle_45 (by decide) ?_
      obtain ⟨q4, hq4, h⟩ := go_bind h
      refine pp_callV (as := [.int (μ2.1 406 ((μ2.1 401 16) : Int32).toNatClampNeg), .int 0]) (st := []) (rv := none) (μ1 := q4) (st1 := []) dX12_settle_46 ll_X12_158 sh_401 (by decide) rfl (ctX12_emit  hq4) rfl (Nat.le_of_ble_eq_true rfl) (Nat.le_of_ble_eq_true rfl) (go_Z_up w _) rfl rfl ?_
      refine go_aload_n dX12_settle_49 0 rfl ?_
      refine pp_getR dX12_settle_50 ff_X12_29 (Or.inr ⟨_, rfl⟩) sh_401 rf_401_15 ?_
      refine go_aload_n dX12_settle_53 0 rfl ?_
      refine pp_getI dX12_settle_54 ff_X12_152 (by decide) sh_401 ?_
      obtain ⟨hz5, h⟩ := go_chk_e h
      refine pp_ild dX12_settle_57 sh_406 hz5 ?_
      refine pp_callS (as := [.int (q4.1 406 ((q4.1 401 16) : Int32).toNatClampNeg)]) (st := []) (rv := (some (.int (fX12_rank (q4.1 406 ((q4.1 401 16) : Int32).toNatClampNeg))))) (μ1 := q4) (st1 := [.int (fX12_rank (q4.1 406 ((q4.1 401 16) : Int32).toNatClampNeg))]) dX12_settle_58 ll_X12_155 (ctX12_rank  rfl) rfl (Nat.le_of_ble_eq_true rfl) (Nat.le_of_ble_eq_true rfl) (go_Z_up w _) rfl rfl ?_
      refine go_bipush (v := 7) dX12_settle_61 (by decide) ?_
      refine go_icmp_eq 80 dX12_settle_63 (by decide) (fun hc => ?_) (fun hc => ?_)
      · have h := go_ifp hc h
        refine go_pick [0, 1] rfl ?_
        exact jqX12_settle_80 w tx Q q4 a0     _ h hK
      · have h := go_ifn hc h
        refine go_aload_n dX12_settle_66 0 rfl ?_
        refine pp_getR dX12_settle_67 ff_X12_29 (Or.inr ⟨_, rfl⟩) sh_401 rf_401_15 ?_
        refine go_aload_n dX12_settle_70 0 rfl ?_
        refine pp_getI dX12_settle_71 ff_X12_152 (by decide) sh_401 ?_
        obtain ⟨hz15, h⟩ := go_chk_e h
        refine pp_ild dX12_settle_74 sh_406 hz15 ?_
        refine go_bipush (v := 20) dX12_settle_75 (by decide) ?_
        refine go_icmp_ne 0 dX12_settle_77 (by decide) (fun hc => ?_) (fun hc => ?_)
        · have h := go_ifn hc h
          obtain ⟨ρ23, hρ23, h⟩ := go_bind h
          refine go_pick [0, 1] rfl ?_
          refine go_lp (G := ggX12_settle_0_b w tx Q a0 ) (E := eeX12_settle_0_b w tx Q a0 ) (fun s out h hK => lqX12_settle_0_b w tx Q a0   s out h hK) go_fuel q4 ρ23 hρ23 ?_
          cases h
          exact hK
        · have h := go_ifp hc h
          refine go_pick [0, 1] rfl ?_
          exact jqX12_settle_80 w tx Q q4 a0     _ h hK
theorem ctX12_settle {w : go_Wd} {tx : Nat} {μ : PM} {a0 : Int32} {μ1 : PM}  (h : fX12_settle μ a0 = some μ1) : Ct w 1 0 0 mtX12_settle [.ref 401, .int a0] (go_mk tx μ) (fun r' M' => r' = none ∧ M' = go_mk tx μ1) :=
  go_entry rfl (by decide) (Nat.le_of_ble_eq_true rfl) (cmX12_settle w tx _ μ a0 _ h ⟨rfl, rfl⟩)
def lbX12_openAt_7 (μ : PM)   (v1 : Int32) : Option ((Int32) ⊕ (Int32)) :=
  (if v1 < 0 then some (.inr (v1)) else go_chk v1 160 <| (if 40 ≤ (μ.1 406 v1.toNatClampNeg) then some (.inr (v1)) else some (.inl (v1 + (-1)))))
def fX12_openAt (μ : PM)  : Option (Int32) :=
  go_let (((μ.1 401 16) - 1)) fun x1 => ((lp (fun s => lbX12_openAt_7 μ s) go_fuel x1).bind fun ρ3 => some ρ3)
def ggX12_openAt_7 (w : go_Wd) (tx : Nat) (Q : Option Value → go_M → Prop) (μ : PM)   (s : Int32) : Prop := Go w 0 0 0 mtX12_openAt 7 [(0, .ref 401), (1, .int s)] [] (go_mk tx μ) (go_Z w Q)
def eeX12_openAt_7 (w : go_Wd) (tx : Nat) (Q : Option Value → go_M → Prop) (μ : PM)   (y : Int32) : Prop := Q (some (.int y)) (go_mk tx μ)
set_option maxRecDepth 20000 in
set_option maxHeartbeats 4000000 in
theorem lqX12_openAt_7 (w : go_Wd) (tx : Nat) (Q : Option Value → go_M → Prop) (μ : PM)    (v1 : Int32) (out : (Int32) ⊕ (Int32)) (h : lbX12_openAt_7 μ  v1 = some out) (hK : go_out (ggX12_openAt_7 w tx Q μ  ) (eeX12_openAt_7 w tx Q μ  ) out) : ggX12_openAt_7 w tx Q μ   v1 := by
  unfold lbX12_openAt_7 at h
  show Go w 0 0 0 mtX12_openAt 7 [(0, .ref 401), (1, .int v1)] [] (go_mk tx μ) (go_Z w Q)
  refine go_iload_n dX12_openAt_7 1 rfl ?_
  refine go_if_lt 28 dX12_openAt_8 (by decide) (fun hc => ?_) (fun hc => ?_)
  · have h := go_ifp hc h
    refine go_iload_n dX12_openAt_28 1 rfl ?_
    cases h
    exact go_iret dX12_openAt_29 rfl hK
  · have h := go_ifn hc h
    refine go_aload_n dX12_openAt_11 0 rfl ?_
    refine pp_getR dX12_openAt_12 ff_X12_29 (Or.inr ⟨_, rfl⟩) sh_401 rf_401_15 ?_
    refine go_iload_n dX12_openAt_15 1 rfl ?_
    obtain ⟨hz2, h⟩ := go_chk_e h
    refine pp_ild dX12_openAt_16 sh_406 hz2 ?_
    refine go_bipush (v := 40) dX12_openAt_17 (by decide) ?_
    refine go_icmp_ge 28 dX12_openAt_19 (by decide) (fun hc => ?_) (fun hc => ?_)
    · have h := go_ifp hc h
      refine go_iload_n dX12_openAt_28 1 rfl ?_
      cases h
      exact go_iret dX12_openAt_29 rfl hK
    · have h := go_ifn hc h
      refine go_iinc (v := (v1 + (-1))) dX12_openAt_22 1 rfl rfl (by decide) rfl ?_
      show Go w 0 0 0 mtX12_openAt 25 [(1, .int (v1 + (-1))), (0, .ref 401)] [] (go_mk tx μ) (go_Z w Q)
      refine go_goto 7 dX12_openAt_25 (by decide) ?_
      cases h
      have hK : Go w 0 0 0 mtX12_openAt 7 [(0, .ref 401), (1, .int (v1 + (-1)))] [] (go_mk tx μ) (go_Z w Q) := hK
      exact go_pick [1, 0] rfl hK
set_option maxRecDepth 20000 in
set_option maxHeartbeats 4000000 in
theorem cmX12_openAt (w : go_Wd) (tx : Nat) (Q : Option Value → go_M → Prop) (μ : PM)  (out : Int32) (h : fX12_openAt μ = some out) (hK : Q (some (.int out)) (go_mk tx μ)) : Go w 0 0 0 mtX12_openAt 0 [(0, .ref 401)] [] (go_mk tx μ) (go_Z w Q) := by
  unfold fX12_openAt at h
  refine go_aload_n dX12_openAt_0 0 rfl ?_
  refine pp_getI dX12_openAt_1 ff_X12_152 (by decide) sh_401 ?_
  refine go_iconst (v := 1) dX12_openAt_4 (by decide) ?_
  refine go_isub dX12_openAt_5 ?_
  obtain ⟨x1, hx1, h⟩ := go_let_e h
  refine go_top hx1 ?_
  refine go_istore_n dX12_openAt_6 (by decide) rfl ?_
  show Go w 0 0 0 mtX12_openAt 7 [(1, .int x1), (0, .ref 401)] [] (go_mk tx μ) (go_Z w Q)
  obtain ⟨ρ3, hρ3, h⟩ := go_bind h
  refine go_pick [1, 0] rfl ?_
  refine go_lp (G := ggX12_openAt_7 w tx Q μ  ) (E := eeX12_openAt_7 w tx Q μ  ) (fun s out h hK => lqX12_openAt_7 w tx Q μ    s out h hK) go_fuel x1 ρ3 hρ3 ?_
  cases h
  exact hK
theorem ctX12_openAt {w : go_Wd} {tx : Nat} {μ : PM}  {r : Int32}  (h : fX12_openAt μ = some r) : Ct w 0 0 0 mtX12_openAt [.ref 401] (go_mk tx μ) (fun r' M' => r' = some (.int r) ∧ M' = go_mk tx μ) :=
  go_entry rfl (by decide) (Nat.le_of_ble_eq_true rfl) (cmX12_openAt w tx _ μ  _ h ⟨rfl, rfl⟩)
def fX12_openNow (μ : PM)  : Option (Int32) :=
  (fX12_openAt μ).bind fun q1 => (if 0 ≤ q1 then (fX12_openAt μ).bind fun q2 => go_chk q2 160 <| some ((μ.1 406 q2.toNatClampNeg)) else some ((-1)))
set_option maxRecDepth 20000 in
set_option maxHeartbeats 4000000 in
theorem cmX12_openNow (w : go_Wd) (tx : Nat) (Q : Option Value → go_M → Prop) (μ : PM)  (out : Int32) (h : fX12_openNow μ = some out) (hK : Q (some (.int out)) (go_mk tx μ)) : Go w 1 0 0 mtX12_openNow 0 [(0, .ref 401)] [] (go_mk tx μ) (go_Z w Q) := by
  unfold fX12_openNow at h
  refine go_aload_n dX12_openNow_0 0 rfl ?_
  obtain ⟨q1, hq1, h⟩ := go_bind h
  refine pp_callV (as := []) (st := []) (rv := (some (.int q1))) (μ1 := μ) (st1 := [.int q1]) dX12_openNow_1 ll_X12_165 sh_401 (by decide) rfl (ctX12_openAt  hq1) rfl (Nat.le_of_ble_eq_true rfl) (Nat.le_of_ble_eq_true rfl) (go_Z_up w _) rfl rfl ?_
  refine go_if_ge 11 dX12_openNow_4 (by decide) (fun hc => ?_) (fun hc => ?_)
  · have h := go_ifp hc h
    refine go_aload_n dX12_openNow_11 0 rfl ?_
    refine pp_getR dX12_openNow_12 ff_X12_29 (Or.inr ⟨_, rfl⟩) sh_401 rf_401_15 ?_
    refine go_aload_n dX12_openNow_15 0 rfl ?_
    obtain ⟨q2, hq2, h⟩ := go_bind h
    refine pp_callV (as := []) (st := [.ref 406]) (rv := (some (.int q2))) (μ1 := μ) (st1 := [.int q2, .ref 406]) dX12_openNow_16 ll_X12_165 sh_401 (by decide) rfl (ctX12_openAt  hq2) rfl (Nat.le_of_ble_eq_true rfl) (Nat.le_of_ble_eq_true rfl) (go_Z_up w _) rfl rfl ?_
    obtain ⟨hz3, h⟩ := go_chk_e h
    refine pp_ild dX12_openNow_19 sh_406 hz3 ?_
    cases h
    exact go_iret dX12_openNow_20 rfl hK
  · have h := go_ifn hc h
    refine go_iconst (v := (-1)) dX12_openNow_7 (by decide) ?_
    refine go_goto 20 dX12_openNow_8 (by decide) ?_
    cases h
    exact go_iret dX12_openNow_20 rfl hK
theorem ctX12_openNow {w : go_Wd} {tx : Nat} {μ : PM}  {r : Int32}  (h : fX12_openNow μ = some r) : Ct w 1 0 0 mtX12_openNow [.ref 401] (go_mk tx μ) (fun r' M' => r' = some (.int r) ∧ M' = go_mk tx μ) :=
  go_entry rfl (by decide) (Nat.le_of_ble_eq_true rfl) (cmX12_openNow w tx _ μ  _ h ⟨rfl, rfl⟩)