def fX10_renewX (μ : PM) (o : Nat) : PM :=
  go_let (pm_wi μ o 10 (jrem (((μ.1 o 10) * 563) + 433) 30773)) fun μ1 => μ1
set_option maxRecDepth 20000 in
set_option maxHeartbeats 4000000 in
theorem cmX10_renewX (w : go_Wd) (tx : Nat) (Q : Option Value → go_M → Prop) (μ : PM) (o : Nat) (ho : go_isW o) (out : PM) (h : fX10_renewX μ o = out) (hK : Q none (go_mk tx out)) : Go w 0 0 0 mtX10_renewX 0 [(0, .ref o)] [] (go_mk tx μ) (go_Z w Q) := by
  unfold fX10_renewX at h
  refine go_aload_n dX10_renewX_0 0 rfl ?_
  refine go_aload_n dX10_renewX_1 0 rfl ?_
  refine pp_getI dX10_renewX_2 ff_X10_24 (by decide) ho.1 ?_
  refine go_sipush (v := 563) dX10_renewX_5 (by decide) ?_
  refine go_imul dX10_renewX_8 ?_
  refine go_sipush (v := 433) dX10_renewX_9 (by decide) ?_
  refine go_iadd dX10_renewX_12 ?_
  refine go_sipush (v := 30773) dX10_renewX_13 (by decide) ?_
  refine go_iremJ dX10_renewX_16 (by decide) ?_
  obtain ⟨μ1, hμ1, h⟩ := go_let_e h
  refine pp_putI dX10_renewX_17 ff_X10_24 (Or.inl rfl) ho.1 hμ1 ?_
  subst h
  exact go_vret dX10_renewX_20 rfl hK
theorem ctX10_renewX {w : go_Wd} {tx : Nat} {μ : PM} {o : Nat} {μ1 : PM} (ho : go_isW o) (h : fX10_renewX μ o = μ1) : Ct w 0 0 0 mtX10_renewX [.ref o] (go_mk tx μ) (fun r' M' => r' = none ∧ M' = go_mk tx μ1) :=
  go_entry rfl (by decide) (Nat.le_of_ble_eq_true rfl) (cmX10_renewX w tx _ μ o ho _ h ⟨rfl, rfl⟩)
def fX10_drawTenth (μ : PM) (o : Nat) : Int32 × PM :=
  go_let ((jrem (μ.1 o 10) 10)) fun x1 => go_let (fX10_renewX μ o) fun q2 => (x1, q2)
set_option maxRecDepth 20000 in
set_option maxHeartbeats 4000000 in
theorem cmX10_drawTenth (w : go_Wd) (tx : Nat) (Q : Option Value → go_M → Prop) (μ : PM) (o : Nat) (ho : go_isW o) (out : Int32 × PM) (h : fX10_drawTenth μ o = out) (hK : Q (some (.int out.1)) (go_mk tx out.2)) : Go w 1 0 0 mtX10_drawTenth 0 [(0, .ref o)] [] (go_mk tx μ) (go_Z w Q) := by
  unfold fX10_drawTenth at h
  refine go_aload_n dX10_drawTenth_0 0 rfl ?_
  refine pp_getI dX10_drawTenth_1 ff_X10_24 (by decide) ho.1 ?_
  refine go_bipush (v := 10) dX10_drawTenth_4 (by decide) ?_
  refine go_iremJ dX10_drawTenth_6 (by decide) ?_
  obtain ⟨x1, hx1, h⟩ := go_let_e h
  refine go_top hx1 ?_
  refine go_istore_n dX10_drawTenth_7 (by decide) rfl ?_
  show Go w 1 0 0 mtX10_drawTenth 8 [(1, .int x1), (0, .ref o)] [] (go_mk tx μ) (go_Z w Q)
  refine go_aload_n dX10_drawTenth_8 1 rfl ?_
  obtain ⟨q2, hq2, h⟩ := go_let_e h
  refine pp_callV (as := []) (st := []) (rv := none) (μ1 := q2) (st1 := []) dX10_drawTenth_9 ll_X10_52 ho.1 (by decide) rfl (ctX10_renewX ho hq2.symm) rfl (Nat.le_of_ble_eq_true rfl) (Nat.le_of_ble_eq_true rfl) (go_Z_up w _) rfl rfl ?_
  refine go_iload_n dX10_drawTenth_12 0 rfl ?_
  subst h
  exact go_iret dX10_drawTenth_13 rfl hK
theorem ctX10_drawTenth {w : go_Wd} {tx : Nat} {μ : PM} {o : Nat} {r : Int32} {μ1 : PM} (ho : go_isW o) (h : fX10_drawTenth μ o = (r, μ1)) : Ct w 1 0 0 mtX10_drawTenth [.ref o] (go_mk tx μ) (fun r' M' => r' = some (.int r) ∧ M' = go_mk tx μ1) :=
  go_entry rfl (by decide) (Nat.le_of_ble_eq_true rfl) (cmX10_drawTenth w tx _ μ o ho _ h ⟨rfl, rfl⟩)
def fX8_hasLaw (μ : PM) (o : Nat) (a0 : Int32) : Option (Int32) :=
  (if a0 < 0 then some (0) else (if 3 ≤ a0 then some (0) else go_chk a0 3 <| (if (μ.1 (o + 4) a0.toNatClampNeg) = (-1) then some (0) else some (1))))
set_option maxRecDepth 20000 in
set_option maxHeartbeats 4000000 in
theorem cmX8_hasLaw (w : go_Wd) (tx : Nat) (Q : Option Value → go_M → Prop) (μ : PM) (o : Nat) (a0 : Int32) (ho : go_isT o) (out : Int32) (h : fX8_hasLaw μ o a0 = some out) (hK : Q (some (.int out)) (go_mk tx μ)) : Go w 0 0 0 mtX8_hasLaw 0 [(0, .ref o), (1, .int a0)] [] (go_mk tx μ) (go_Z w Q) := by
  unfold fX8_hasLaw at h
  refine go_iload_n dX8_hasLaw_0 1 rfl ?_
  refine go_if_lt 27 dX8_hasLaw_1 (by decide) (fun hc => ?_) (fun hc => ?_)
  · have h := go_ifp hc h
    refine go_iconst (v := 0) dX8_hasLaw_27 (by decide) ?_
    cases h
    exact go_zret dX8_hasLaw_28 rfl (Or.inl rfl) hK
  · have h := go_ifn hc h
    refine go_iload_n dX8_hasLaw_4 1 rfl ?_
    refine go_aload_n dX8_hasLaw_5 0 rfl ?_
    refine pp_getR dX8_hasLaw_6 ff_X8_21 (Or.inr ⟨_, rfl⟩) ho.1 (go_RF_ne ho.2.2.2.2.2.2.2.2.2.2.2.2.2 ho.2.2.2.2.2.2.2.2.2.2.1) ?_
    refine pp_alen (v := 3) dX8_hasLaw_9 ho.2.2.2.2.1 (by decide) ?_
    refine go_icmp_ge 27 dX8_hasLaw_10 (by decide) (fun hc => ?_) (fun hc => ?_)
    · have h := go_ifp hc h
      refine go_iconst (v := 0) dX8_hasLaw_27 (by decide) ?_
      cases h
      exact go_zret dX8_hasLaw_28 rfl (Or.inl rfl) hK
    · have h := go_ifn hc h
      refine go_aload_n dX8_hasLaw_13 0 rfl ?_
      refine pp_getR dX8_hasLaw_14 ff_X8_21 (Or.inr ⟨_, rfl⟩) ho.1 (go_RF_ne ho.2.2.2.2.2.2.2.2.2.2.2.2.2 ho.2.2.2.2.2.2.2.2.2.2.1) ?_
      refine go_iload_n dX8_hasLaw_17 1 rfl ?_
      obtain ⟨hz1, h⟩ := go_chk_e h
      refine pp_ild dX8_hasLaw_18 ho.2.2.2.2.1 hz1 ?_
      refine go_iconst (v := (-1)) dX8_hasLaw_19 (by decide) ?_
      refine go_icmp_eq 27 dX8_hasLaw_20 (by decide) (fun hc => ?_) (fun hc => ?_)
      · have h := go_ifp hc h
        refine go_iconst (v := 0) dX8_hasLaw_27 (by decide) ?_
        cases h
        exact go_zret dX8_hasLaw_28 rfl (Or.inl rfl) hK
      · have h := go_ifn hc h
        refine go_iconst (v := 1) dX8_hasLaw_23 (by decide) ?_
        refine go_goto 28 dX8_hasLaw_24 (by decide) ?_
        cases h
        exact go_zret dX8_hasLaw_28 rfl (Or.inr rfl) hK
theorem ctX8_hasLaw {w : go_Wd} {tx : Nat} {μ : PM} {o : Nat} {a0 : Int32} {r : Int32} (ho : go_isT o) (h : fX8_hasLaw μ o a0 = some r) : Ct w 0 0 0 mtX8_hasLaw [.ref o, .int a0] (go_mk tx μ) (fun r' M' => r' = some (.int r) ∧ M' = go_mk tx μ) :=
  go_entry rfl (by decide) (Nat.le_of_ble_eq_true rfl) (cmX8_hasLaw w tx _ μ o a0 ho _ h ⟨rfl, rfl⟩)
def fX2_work (μ : PM) (a0 : Int32) (a1 : Int32) (a2 : Int32) : Option (Int64) :=
  (if a0 = 26 then some ((a1 ||| a2).toInt64) else (if a0 = 27 then some ((a1 &&& a2).toInt64) else (if a0 = 28 then (if a1 < a2 then some (0) else some (1)) else (if a0 = 29 then (if a1 < 0 then some (0) else (if a1 < 7 then go_chk a1 7 <| go_nz (go_tn a1) <| some ((jrem ((jabs a2) / (go_tn a1)) 10).toInt64) else some (0))) else (if a0 = 30 then (if a1 < a2 then some (0) else some (1)) else (if a0 = 31 then (if a1 < a2 then some (0) else some (1)) else (if a0 = 32 then (if a1 < a2 then some (0) else some (1)) else (if a0 = 33 then (if a1 < a2 then some (0) else some (1)) else (if a0 = 34 then (if a1 < a2 then some (0) else some (1)) else (if a0 = 35 then (if a1 < a2 then some (0) else some (1)) else (if a0 = 36 then (if a1 < a2 then some (0) else some (1)) else (if a0 = 37 then (if a1 < a2 then some (0) else some (1)) else (if a0 = 38 then (if a1 < a2 then some (0) else some (1)) else (if a0 = 39 then (if a1 < a2 then some (0) else some (1)) else (if a0 = 40 then (if a2 ≤ a1 then some (0) else some (1)) else (if a0 = 41 then (if a1 ≤ a2 then some (0) else some (1)) else (if a0 = 42 then (if a1 = a2 then some (1) else some (0)) else (if a0 = 43 then (if a1 = a2 then some (0) else some (1)) else (if a0 = 44 then some ((a1.toInt64 + a2.toInt64)) else (if a0 = 45 then some ((a1.toInt64 - a2.toInt64)) else (if a0 = 46 then some ((a1.toInt64 * a2.toInt64)) else (if a0 = 47 then (if a2 = 0 then some (0) else go_nz a2 <| some ((a1 / a2).toInt64)) else (if a0 = 48 then (if a1 < a2 then some (0) else some (1)) else (if a0 = 49 then (if a1 < a2 then some (0) else some (1)) else (if a0 = 50 then (if a1 < a2 then some (0) else some (1)) else (if a0 = 51 then (if a2 < a1 then some (0) else some (1)) else (if a1 < a2 then some (0) else some (1))))))))))))))))))))))))))))
set_option maxRecDepth 20000 in
set_option maxHeartbeats 4000000 in
theorem cmX2_work (w : go_Wd) (tx : Nat) (Q : Option Value → go_M → Prop) (μ : PM) (a0 : Int32) (a1 : Int32) (a2 : Int32) (out : Int64) (h : fX2_work μ a0 a1 a2 = some out) (hK : Q (some (.long out)) (go_mk tx μ)) : Go w 1 0 0 mtX2_work 0 [(0, .int a0), (1, .int a1), (2, .int a2)] [] (go_mk tx μ) (go_Z w Q) := by
  unfold fX2_work at h
  refine go_iload_n dX2_work_0 0 rfl ?_
  by_cases hc1 : a0 = 26
  · have h := go_ifp hc1 h
    refine go_tabIn (off := 186) 187 dX2_work_1 26 hc1 (by decide) (by decide) (by decide) (by decide) ?_
    refine go_iload_n dX2_work_187 1 rfl ?_
    refine go_iload_n dX2_work_188 2 rfl ?_
    refine go_ior dX2_work_189 ?_
    refine go_i2l dX2_work_190 ?_
    cases h
    exact go_lret dX2_work_191 rfl hK
  · have h := go_ifn hc1 h
    by_cases hc2 : a0 = 27
    · have h := go_ifp hc2 h
      refine go_tabIn (off := 181) 182 dX2_work_1 27 hc2 (by decide) (by decide) (by decide) (by decide) ?_
      refine go_iload_n dX2_work_182 1 rfl ?_
      refine go_iload_n dX2_work_183 2 rfl ?_
      refine go_iand dX2_work_184 ?_
      refine go_i2l dX2_work_185 ?_
      cases h
      exact go_lret dX2_work_186 rfl hK
    · have h := go_ifn hc2 h
      by_cases hc3 : a0 = 28
      · have h := go_ifp hc3 h
        refine go_tabIn (off := 246) 247 dX2_work_1 28 hc3 (by decide) (by decide) (by decide) (by decide) ?_
        refine go_iload_n dX2_work_247 1 rfl ?_
        refine go_iload_n dX2_work_248 2 rfl ?_
        refine go_icmp_lt 256 dX2_work_249 (by decide) (fun hc => ?_) (fun hc => ?_)
        · have h := go_ifp hc h
          refine go_lconst (v := 0) dX2_work_256 (by decide) ?_
          cases h
          exact go_lret dX2_work_257 rfl hK
        · have h := go_ifn hc h
          refine go_lconst (v := 1) dX2_work_252 (by decide) ?_
          refine go_goto 257 dX2_work_253 (by decide) ?_
          cases h
          exact go_lret dX2_work_257 rfl hK
      · have h := go_ifn hc3 h
        by_cases hc4 : a0 = 29
        · have h := go_ifp hc4 h
          refine go_tabIn (off := 150) 151 dX2_work_1 29 hc4 (by decide) (by decide) (by decide) (by decide) ?_
          refine go_iload_n dX2_work_151 1 rfl ?_
          refine go_if_lt 163 dX2_work_152 (by decide) (fun hc => ?_) (fun hc => ?_)
          · have h := go_ifp hc h
            refine go_lconst (v := 0) dX2_work_163 (by decide) ?_
            refine go_goto 181 dX2_work_164 (by decide) ?_
            cases h
            exact go_lret dX2_work_181 rfl hK
          · have h := go_ifn hc h
            refine go_iload_n dX2_work_155 1 rfl ?_
            refine go_getT dX2_work_156 fn_X2_81 ?_
            refine go_lenT dX2_work_159 ?_
            refine go_icmp_lt 167 dX2_work_160 (by decide) (fun hc => ?_) (fun hc => ?_)
            · have h := go_ifp hc h
              refine go_iload_n dX2_work_167 2 rfl ?_
              refine go_mabs dX2_work_168 mm_X2_84 (by decide) (Nat.le_of_ble_eq_true rfl) ?_
              refine go_top (x := (jabs a2)) rfl ?_
              refine go_getT dX2_work_171 fn_X2_81 ?_
              refine go_iload_n dX2_work_174 1 rfl ?_
              obtain ⟨hz5, h⟩ := go_chk_e h
              refine go_ldT (x := (go_tn a1)) dX2_work_175 hz5 rfl ?_
              obtain ⟨hz6, h⟩ := go_nz_e h
              refine go_idiv dX2_work_176 hz6 ?_
              refine go_bipush (v := 10) dX2_work_177 (by decide) ?_
              refine go_iremJ dX2_work_179 (by decide) ?_
              refine go_i2l dX2_work_180 ?_
              cases h
              exact go_lret dX2_work_181 rfl hK
            · have h := go_ifn hc h
              refine go_lconst (v := 0) dX2_work_163 (by decide) ?_
              refine go_goto 181 dX2_work_164 (by decide) ?_
              cases h
              exact go_lret dX2_work_181 rfl hK
        · have h := go_ifn hc4 h
          by_cases hc7 : a0 = 30
          · have h := go_ifp hc7 h
            refine go_tabIn (off := 246) 247 dX2_work_1 30 hc7 (by decide) (by decide) (by decide) (by decide) ?_
            refine go_iload_n dX2_work_247 1 rfl ?_
            refine go_iload_n dX2_work_248 2 rfl ?_
            refine go_icmp_lt 256 dX2_work_249 (by decide) (fun hc => ?_) (fun hc => ?_)
            · have h := go_ifp hc h
              refine go_lconst (v := 0) dX2_work_256 (by decide) ?_
              cases h
              exact go_lret dX2_work_257 rfl hK
            · have h := go_ifn hc h
              refine go_lconst (v := 1) dX2_work_252 (by decide) ?_
              refine go_goto 257 dX2_work_253 (by decide) ?_
              cases h
              exact go_lret dX2_work_257 rfl hK
          · have h := go_ifn hc7 h
            by_cases hc8 : a0 = 31
            · have h := go_ifp hc8 h
              refine go_tabIn (off := 246) 247 dX2_work_1 31 hc8 (by decide) (by decide) (by decide) (by decide) ?_
              refine go_iload_n dX2_work_247 1 rfl ?_
              refine go_iload_n dX2_work_248 2 rfl ?_
              refine go_icmp_lt 256 dX2_work_249 (by decide) (fun hc => ?_) (fun hc => ?_)
              · have h := go_ifp hc h
                refine go_lconst (v := 0) dX2_work_256 (by decide) ?_
                cases h
                exact go_lret dX2_work_257 rfl hK
              · have h := go_ifn hc h
                refine go_lconst (v := 1) dX2_work_252 (by decide) ?_
                refine go_goto 257 dX2_work_253 (by decide) ?_
                cases h
                exact go_lret dX2_work_257 rfl hK
            · have h := go_ifn hc8 h
              by_cases hc9 : a0 = 32
              · have h := go_ifp hc9 h
                refine go_tabIn (off := 246) 247 dX2_work_1 32 hc9 (by decide) (by decide) (by decide) (by decide) ?_
                refine go_iload_n dX2_work_247 1 rfl ?_
                refine go_iload_n dX2_work_248 2 rfl ?_
                refine go_icmp_lt 256 dX2_work_249 (by decide) (fun hc => ?_) (fun hc => ?_)
                · have h := go_ifp hc h
                  refine go_lconst (v := 0) dX2_work_256 (by decide) ?_
                  cases h
                  exact go_lret dX2_work_257 rfl hK
                · have h := go_ifn hc h
                  refine go_lconst (v := 1) dX2_work_252 (by decide) ?_
                  refine go_goto 257 dX2_work_253 (by decide) ?_
                  cases h
                  exact go_lret dX2_work_257 rfl hK
              · have h := go_ifn hc9 h
                by_cases hc10 : a0 = 33
                · have h := go_ifp hc10 h
                  refine go_tabIn (off := 246) 247 dX2_work_1 33 hc10 (by decide) (by decide) (by decide) (by decide) ?_
                  refine go_iload_n dX2_work_247 1 rfl ?_
                  refine go_iload_n dX2_work_248 2 rfl ?_
                  refine go_icmp_lt 256 dX2_work_249 (by decide) (fun hc => ?_) (fun hc => ?_)
                  · have h := go_ifp hc h
                    refine go_lconst (v := 0) dX2_work_256 (by decide) ?_
                    cases h
                    exact go_lret dX2_work_257 rfl hK
                  · have h := go_ifn hc h
                    refine go_lconst (v := 1) dX2_work_252 (by decide) ?_
                    refine go_goto 257 dX2_work_253 (by decide) ?_
                    cases h
                    exact go_lret dX2_work_257 rfl hK
                · have h := go_ifn hc10 h
                  by_cases hc11 : a0 = 34
                  · have h := go_ifp hc11 h
                    refine go_tabIn (off := 246) 247 dX2_work_1 34 hc11 (by decide) (by decide) (by decide) (by decide) ?_
                    refine go_iload_n dX2_work_247 1 rfl ?_
                    refine go_iload_n dX2_work_248 2 rfl ?_
                    refine go_icmp_lt 256 dX2_work_249 (by decide) (fun hc => ?_) (fun hc => ?_)
                    · have h := go_ifp hc h
                      refine go_lconst (v := 0) dX2_work_256 (by decide) ?_
                      cases h
                      exact go_lret dX2_work_257 rfl hK
                    · have h := go_ifn hc h
                      refine go_lconst (v := 1) dX2_work_252 (by decide) ?_
                      refine go_goto 257 dX2_work_253 (by decide) ?_
                      cases h
                      exact go_lret dX2_work_257 rfl hK
                  · have h := go_ifn hc11 h
                    by_cases hc12 : a0 = 35
                    · have h := go_ifp hc12 h
                      refine go_tabIn (off := 246) 247 dX2_work_1 35 hc12 (by decide) (by decide) (by decide) (by decide) ?_
                      refine go_iload_n dX2_work_247 1 rfl ?_
                      refine go_iload_n dX2_work_248 2 rfl ?_
                      refine go_icmp_lt 256 dX2_work_249 (by decide) (fun hc => ?_) (fun hc => ?_)
                      · have h := go_ifp hc h
                        refine go_lconst (v := 0) dX2_work_256 (by decide) ?_
                        cases h
                        exact go_lret dX2_work_257 rfl hK
                      · have h := go_ifn hc h
                        refine go_lconst (v := 1) dX2_work_252 (by decide) ?_
                        refine go_goto 257 dX2_work_253 (by decide) ?_
                        cases h
                        exact go_lret dX2_work_257 rfl hK
                    · have h := go_ifn hc12 h
                      by_cases hc13 : a0 = 36
                      · have h := go_ifp hc13 h
                        refine go_tabIn (off := 246) 247 dX2_work_1 36 hc13 (by decide) (by decide) (by decide) (by decide) ?_
                        refine go_iload_n dX2_work_247 1 rfl ?_
                        refine go_iload_n dX2_work_248 2 rfl ?_
                        refine go_icmp_lt 256 dX2_work_249 (by decide) (fun hc => ?_) (fun hc => ?_)
                        · have h := go_ifp hc h
                          refine go_lconst (v := 0) dX2_work_256 (by decide) ?_
                          cases h
                          exact go_lret dX2_work_257 rfl hK
                        · have h := go_ifn hc h
                          refine go_lconst (v := 1) dX2_work_252 (by decide) ?_
                          refine go_goto 257 dX2_work_253 (by decide) ?_
                          cases h
                          exact go_lret dX2_work_257 rfl hK
                      · have h := go_ifn hc13 h
                        by_cases hc14 : a0 = 37
                        · have h := go_ifp hc14 h
                          refine go_tabIn (off := 246) 247 dX2_work_1 37 hc14 (by decide) (by decide) (by decide) (by decide) ?_
                          refine go_iload_n dX2_work_247 1 rfl ?_
                          refine go_iload_n dX2_work_248 2 rfl ?_
                          refine go_icmp_lt 256 dX2_work_249 (by decide) (fun hc => ?_) (fun hc => ?_)
                          · have h := go_ifp hc h
                            refine go_lconst (v := 0) dX2_work_256 (by decide) ?_
                            cases h
                            exact go_lret dX2_work_257 rfl hK
                          · have h := go_ifn hc h
                            refine go_lconst (v := 1) dX2_work_252 (by decide) ?_
                            refine go_goto 257 dX2_work_253 (by decide) ?_
                            cases h
                            exact go_lret dX2_work_257 rfl hK
                        · have h := go_ifn hc14 h
                          by_cases hc15 : a0 = 38
                          · have h := go_ifp hc15 h
                            refine go_tabIn (off := 246) 247 dX2_work_1 38 hc15 (by decide) (by decide) (by decide) (by decide) ?_
                            refine go_iload_n dX2_work_247 1 rfl ?_
                            refine go_iload_n dX2_work_248 2 rfl ?_
                            refine go_icmp_lt 256 dX2_work_249 (by decide) (fun hc => ?_) (fun hc => ?_)
                            · have h := go_ifp hc h
                              refine go_lconst (v := 0) dX2_work_256 (by decide) ?_
                              cases h
                              exact go_lret dX2_work_257 rfl hK
                            · have h := go_ifn hc h
                              refine go_lconst (v := 1) dX2_work_252 (by decide) ?_
                              refine go_goto 257 dX2_work_253 (by decide) ?_
                              cases h
                              exact go_lret dX2_work_257 rfl hK
                          · have h := go_ifn hc15 h
                            by_cases hc16 : a0 = 39
                            · have h := go_ifp hc16 h
                              refine go_tabIn (off := 246) 247 dX2_work_1 39 hc16 (by decide) (by decide) (by decide) (by decide) ?_
                              refine go_iload_n dX2_work_247 1 rfl ?_
                              refine go_iload_n dX2_work_248 2 rfl ?_
                              refine go_icmp_lt 256 dX2_work_249 (by decide) (fun hc => ?_) (fun hc => ?_)
                              · have h := go_ifp hc h
                                refine go_lconst (v := 0) dX2_work_256 (by decide) ?_
                                cases h
                                exact go_lret dX2_work_257 rfl hK
                              · have h := go_ifn hc h
                                refine go_lconst (v := 1) dX2_work_252 (by decide) ?_
                                refine go_goto 257 dX2_work_253 (by decide) ?_
                                cases h
                                exact go_lret dX2_work_257 rfl hK
                            · have h := go_ifn hc16 h
                              by_cases hc17 : a0 = 40
                              · have h := go_ifp hc17 h
                                refine go_tabIn (off := 191) 192 dX2_work_1 40 hc17 (by decide) (by decide) (by decide) (by decide) ?_
                                refine go_iload_n dX2_work_192 1 rfl ?_
                                refine go_iload_n dX2_work_193 2 rfl ?_
                                refine go_icmp_ge 201 dX2_work_194 (by decide) (fun hc => ?_) (fun hc => ?_)
                                · have h := go_ifp hc h
                                  refine go_lconst (v := 0) dX2_work_201 (by decide) ?_
                                  cases h
                                  exact go_lret dX2_work_202 rfl hK
                                · have h := go_ifn hc h
                                  refine go_lconst (v := 1) dX2_work_197 (by decide) ?_
                                  refine go_goto 202 dX2_work_198 (by decide) ?_
                                  cases h
                                  exact go_lret dX2_work_202 rfl hK
                              · have h := go_ifn hc17 h
                                by_cases hc18 : a0 = 41
                                · have h := go_ifp hc18 h
                                  refine go_tabIn (off := 202) 203 dX2_work_1 41 hc18 (by decide) (by decide) (by decide) (by decide) ?_
                                  refine go_iload_n dX2_work_203 1 rfl ?_
                                  refine go_iload_n dX2_work_204 2 rfl ?_
                                  refine go_icmp_le 212 dX2_work_205 (by decide) (fun hc => ?_) (fun hc => ?_)
                                  · have h := go_ifp hc h
                                    refine go_lconst (v := 0) dX2_work_212 (by decide) ?_
                                    cases h
                                    exact go_lret dX2_work_213 rfl hK
                                  · have h := go_ifn hc h
                                    refine go_lconst (v := 1) dX2_work_208 (by decide) ?_
                                    refine go_goto 213 dX2_work_209 (by decide) ?_
                                    cases h
                                    exact go_lret dX2_work_213 rfl hK
                                · have h := go_ifn hc18 h
                                  by_cases hc19 : a0 = 42
                                  · have h := go_ifp hc19 h
                                    refine go_tabIn (off := 213) 214 dX2_work_1 42 hc19 (by decide) (by decide) (by decide) (by decide) ?_
                                    refine go_iload_n dX2_work_214 1 rfl ?_
                                    refine go_iload_n dX2_work_215 2 rfl ?_
                                    refine go_icmp_ne 223 dX2_work_216 (by decide) (fun hc => ?_) (fun hc => ?_)
                                    · have h := go_ifn hc h
                                      refine go_lconst (v := 0) dX2_work_223 (by decide) ?_
                                      cases h
                                      exact go_lret dX2_work_224 rfl hK
                                    · have h := go_ifp hc h
                                      refine go_lconst (v := 1) dX2_work_219 (by decide) ?_
                                      refine go_goto 224 dX2_work_220 (by decide) ?_
                                      cases h
                                      exact go_lret dX2_work_224 rfl hK
                                  · have h := go_ifn hc19 h
                                    by_cases hc20 : a0 = 43
                                    · have h := go_ifp hc20 h
                                      refine go_tabIn (off := 224) 225 dX2_work_1 43 hc20 (by decide) (by decide) (by decide) (by decide) ?_
                                      refine go_iload_n dX2_work_225 1 rfl ?_
                                      refine go_iload_n dX2_work_226 2 rfl ?_
                                      refine go_icmp_eq 234 dX2_work_227 (by decide) (fun hc => ?_) (fun hc => ?_)
                                      · have h := go_ifp hc h
                                        refine go_lconst (v := 0) dX2_work_234 (by decide) ?_
                                        cases h
                                        exact go_lret dX2_work_235 rfl hK
                                      · have h := go_ifn hc h
                                        refine go_lconst (v := 1) dX2_work_230 (by decide) ?_
                                        refine go_goto 235 dX2_work_231 (by decide) ?_
                                        cases h
                                        exact go_lret dX2_work_235 rfl hK
                                    · have h := go_ifn hc20 h
                                      by_cases hc21 : a0 = 44
                                      · have h := go_ifp hc21 h
                                        refine go_tabIn (off := 119) 120 dX2_work_1 44 hc21 (by decide) (by decide) (by decide) (by decide) ?_
                                        refine go_iload_n dX2_work_120 1 rfl ?_
                                        refine go_i2l dX2_work_121 ?_
                                        refine go_iload_n dX2_work_122 2 rfl ?_
                                        refine go_i2l dX2_work_123 ?_
                                        refine go_ladd dX2_work_124 ?_
                                        cases h
                                        exact go_lret dX2_work_125 rfl hK
                                      · have h := go_ifn hc21 h
                                        by_cases hc22 : a0 = 45
                                        · have h := go_ifp hc22 h
                                          refine go_tabIn (off := 125) 126 dX2_work_1 45 hc22 (by decide) (by decide) (by decide) (by decide) ?_
                                          refine go_iload_n dX2_work_126 1 rfl ?_
                                          refine go_i2l dX2_work_127 ?_
                                          refine go_iload_n dX2_work_128 2 rfl ?_
                                          refine go_i2l dX2_work_129 ?_
                                          refine go_lsub dX2_work_130 ?_
                                          cases h
                                          exact go_lret dX2_work_131 rfl hK
                                        · have h := go_ifn hc22 h
                                          by_cases hc23 : a0 = 46
                                          · have h := go_ifp hc23 h
                                            refine go_tabIn (off := 131) 132 dX2_work_1 46 hc23 (by decide) (by decide) (by decide) (by decide) ?_
                                            refine go_iload_n dX2_work_132 1 rfl ?_
                                            refine go_i2l dX2_work_133 ?_
                                            refine go_iload_n dX2_work_134 2 rfl ?_
                                            refine go_i2l dX2_work_135 ?_
                                            refine go_lmul dX2_work_136 ?_
                                            cases h
                                            exact go_lret dX2_work_137 rfl hK
                                          · have h := go_ifn hc23 h
                                            by_cases hc24 : a0 = 47
                                            · have h := go_ifp hc24 h
                                              refine go_tabIn (off := 137) 138 dX2_work_1 47 hc24 (by decide) (by decide) (by decide) (by decide) ?_
                                              refine go_iload_n dX2_work_138 2 rfl ?_
                                              refine go_if_ne 146 dX2_work_139 (by decide) (fun hc => ?_) (fun hc => ?_)
                                              · have h := go_ifn hc h
                                                refine go_iload_n dX2_work_146 1 rfl ?_
                                                refine go_iload_n dX2_work_147 2 rfl ?_
                                                obtain ⟨hz25, h⟩ := go_nz_e h
                                                refine go_idiv dX2_work_148 hz25 ?_
                                                refine go_i2l dX2_work_149 ?_
                                                cases h
                                                exact go_lret dX2_work_150 rfl hK
                                              · have h := go_ifp hc h
                                                refine go_lconst (v := 0) dX2_work_142 (by decide) ?_
                                                refine go_goto 150 dX2_work_143 (by decide) ?_
                                                cases h
                                                exact go_lret dX2_work_150 rfl hK
                                            · have h := go_ifn hc24 h
                                              by_cases hc26 : a0 = 48
                                              · have h := go_ifp hc26 h
                                                refine go_tabIn (off := 246) 247 dX2_work_1 48 hc26 (by decide) (by decide) (by decide) (by decide) ?_
                                                refine go_iload_n dX2_work_247 1 rfl ?_
                                                refine go_iload_n dX2_work_248 2 rfl ?_
                                                refine go_icmp_lt 256 dX2_work_249 (by decide) (fun hc => ?_) (fun hc => ?_)
                                                · have h := go_ifp hc h
                                                  refine go_lconst (v := 0) dX2_work_256 (by decide) ?_
                                                  cases h
                                                  exact go_lret dX2_work_257 rfl hK
                                                · have h := go_ifn hc h
                                                  refine go_lconst (v := 1) dX2_work_252 (by decide) ?_
                                                  refine go_goto 257 dX2_work_253 (by decide) ?_
                                                  cases h
                                                  exact go_lret dX2_work_257 rfl hK
                                              · have h := go_ifn hc26 h
                                                by_cases hc27 : a0 = 49
                                                · have h := go_ifp hc27 h
                                                  refine go_tabIn (off := 246) 247 dX2_work_1 49 hc27 (by decide) (by decide) (by decide) (by decide) ?_
                                                  refine go_iload_n dX2_work_247 1 rfl ?_
                                                  refine go_iload_n dX2_work_248 2 rfl ?_
                                                  refine go_icmp_lt 256 dX2_work_249 (by decide) (fun hc => ?_) (fun hc => ?_)
                                                  · have h := go_ifp hc h
                                                    refine go_lconst (v := 0) dX2_work_256 (by decide) ?_
                                                    cases h
                                                    exact go_lret dX2_work_257 rfl hK
                                                  · have h := go_ifn hc h
                                                    refine go_lconst (v := 1) dX2_work_252 (by decide) ?_
                                                    refine go_goto 257 dX2_work_253 (by decide) ?_
                                                    cases h
                                                    exact go_lret dX2_work_257 rfl hK
                                                · have h := go_ifn hc27 h
                                                  by_cases hc28 : a0 = 50
                                                  · have h := go_ifp hc28 h
                                                    refine go_tabIn (off := 246) 247 dX2_work_1 50 hc28 (by decide) (by decide) (by decide) (by decide) ?_
                                                    refine go_iload_n dX2_work_247 1 rfl ?_
                                                    refine go_iload_n dX2_work_248 2 rfl ?_
                                                    refine go_icmp_lt 256 dX2_work_249 (by decide) (fun hc => ?_) (fun hc => ?_)
                                                    · have h := go_ifp hc h
                                                      refine go_lconst (v := 0) dX2_work_256 (by decide) ?_
                                                      cases h
                                                      exact go_lret dX2_work_257 rfl hK
                                                    · have h := go_ifn hc h
                                                      refine go_lconst (v := 1) dX2_work_252 (by decide) ?_
                                                      refine go_goto 257 dX2_work_253 (by decide) ?_
                                                      cases h
                                                      exact go_lret dX2_work_257 rfl hK
                                                  · have h := go_ifn hc28 h
                                                    by_cases hc29 : a0 = 51
                                                    · have h := go_ifp hc29 h
                                                      refine go_tabIn (off := 235) 236 dX2_work_1 51 hc29 (by decide) (by decide) (by decide) (by decide) ?_
                                                      refine go_iload_n dX2_work_236 1 rfl ?_
                                                      refine go_iload_n dX2_work_237 2 rfl ?_
                                                      refine go_icmp_gt 245 dX2_work_238 (by decide) (fun hc => ?_) (fun hc => ?_)
                                                      · have h := go_ifp hc h
                                                        refine go_lconst (v := 0) dX2_work_245 (by decide) ?_
                                                        cases h
                                                        exact go_lret dX2_work_246 rfl hK
                                                      · have h := go_ifn hc h
                                                        refine go_lconst (v := 1) dX2_work_241 (by decide) ?_
                                                        refine go_goto 246 dX2_work_242 (by decide) ?_
                                                        cases h
                                                        exact go_lret dX2_work_246 rfl hK
                                                    · have h := go_ifn hc29 h
                                                      refine go_tabOut 247 dX2_work_1 (by have g0 := go_ne_i (n := 26) hc1 (by decide); have g1 := go_ne_i (n := 27) hc2 (by decide); have g2 := go_ne_i (n := 28) hc3 (by decide); have g3 := go_ne_i (n := 29) hc4 (by decide); have g4 := go_ne_i (n := 30) hc7 (by decide); have g5 := go_ne_i (n := 31) hc8 (by decide); have g6 := go_ne_i (n := 32) hc9 (by decide); have g7 := go_ne_i (n := 33) hc10 (by decide); have g8 := go_ne_i (n := 34) hc11 (by decide); have g9 := go_ne_i (n := 35) hc12 (by decide); have g10 := go_ne_i (n := 36) hc13 (by decide); have g11 := go_ne_i (n := 37) hc14 (by decide); have g12 := go_ne_i (n := 38) hc15 (by decide); have g13 := go_ne_i (n := 39) hc16 (by decide); have g14 := go_ne_i (n := 40) hc17 (by decide); have g15 := go_ne_i (n := 41) hc18 (by decide); have g16 := go_ne_i (n := 42) hc19 (by decide); have g17 := go_ne_i (n := 43) hc20 (by decide); have g18 := go_ne_i (n := 44) hc21 (by decide); have g19 := go_ne_i (n := 45) hc22 (by decide); have g20 := go_ne_i (n := 46) hc23 (by decide); have g21 := go_ne_i (n := 47) hc24 (by decide); have g22 := go_ne_i (n := 48) hc26 (by decide); have g23 := go_ne_i (n := 49) hc27 (by decide); have g24 := go_ne_i (n := 50) hc28 (by decide); have g25 := go_ne_i (n := 51) hc29 (by decide); omega) (by decide) ?_
                                                      refine go_iload_n dX2_work_247 1 rfl ?_
                                                      refine go_iload_n dX2_work_248 2 rfl ?_
                                                      refine go_icmp_lt 256 dX2_work_249 (by decide) (fun hc => ?_) (fun hc => ?_)
                                                      · have h := go_ifp hc h
                                                        refine go_lconst (v := 0) dX2_work_256 (by decide) ?_
                                                        cases h
                                                        exact go_lret dX2_work_257 rfl hK
                                                      · have h := go_ifn hc h
                                                        refine go_lconst (v := 1) dX2_work_252 (by decide) ?_
                                                        refine go_goto 257 dX2_work_253 (by decide) ?_
                                                        cases h
                                                        exact go_lret dX2_work_257 rfl hK
theorem ctX2_work {w : go_Wd} {tx : Nat} {μ : PM} {a0 : Int32} {a1 : Int32} {a2 : Int32} {r : Int64}  (h : fX2_work μ a0 a1 a2 = some r) : Ct w 1 0 0 mtX2_work [.int a0, .int a1, .int a2] (go_mk tx μ) (fun r' M' => r' = some (.long r) ∧ M' = go_mk tx μ) :=
  go_entry rfl (by decide) (Nat.le_of_ble_eq_true rfl) (cmX2_work w tx _ μ a0 a1 a2 _ h ⟨rfl, rfl⟩)
def fX2_within (a0 : Int64) (a1 : Int32) (a2 : Int32) : Int32 :=
  (jmaxl a1.toInt64 (jminl a2.toInt64 a0)).toInt32
set_option maxRecDepth 20000 in
set_option maxHeartbeats 4000000 in
theorem cmX2_within (w : go_Wd) (tx : Nat) (Q : Option Value → go_M → Prop) (μ : PM) (a0 : Int64) (a1 : Int32) (a2 : Int32) (out : Int32) (h : fX2_within a0 a1 a2 = out) (hK : Q (some (.int out)) (go_mk tx μ)) : Go w 1 0 0 mtX2_within 0 [(0, .long a0), (2, .int a1), (3, .int a2)] [] (go_mk tx μ) (go_Z w Q) := by
  unfold fX2_within at h
  refine go_iload_n dX2_within_0 1 rfl ?_
  refine go_i2l dX2_within_1 ?_
  refine go_iload_n dX2_within_2 2 rfl ?_
  refine go_i2l dX2_within_3 ?_
  refine go_lload_n dX2_within_4 0 rfl ?_
  refine go_mminL dX2_within_5 ml_X2_90 (by decide) (Nat.le_of_ble_eq_true rfl) ?_
  refine go_topl (x := (jminl a2.toInt64 a0)) rfl ?_
  refine go_mmaxL dX2_within_8 ml_X2_94 (by decide) (Nat.le_of_ble_eq_true rfl) ?_
  refine go_topl (x := (jmaxl a1.toInt64 (jminl a2.toInt64 a0))) rfl ?_
  refine go_l2i dX2_within_11 ?_
  subst h
  exact go_iret dX2_within_12 rfl hK
theorem ctX2_within {w : go_Wd} {tx : Nat} {μ : PM} {a0 : Int64} {a1 : Int32} {a2 : Int32} {r : Int32}  (h : fX2_within a0 a1 a2 = r) : Ct w 1 0 0 mtX2_within [.long a0, .int a1, .int a2] (go_mk tx μ) (fun r' M' => r' = some (.int r) ∧ M' = go_mk tx μ) :=
  go_entry rfl (by decide) (Nat.le_of_ble_eq_true rfl) (cmX2_within w tx _ μ a0 a1 a2 _ h ⟨rfl, rfl⟩)
def fX12_isIn (a0 : Int32) (a1 : Int32) (a2 : Int32) : Int32 :=
  (if a0 < a1 then 0 else (if a2 < a0 then 0 else 1))
set_option maxRecDepth 20000 in
set_option maxHeartbeats 4000000 in
theorem cmX12_isIn (w : go_Wd) (tx : Nat) (Q : Option Value → go_M → Prop) (μ : PM) (a0 : Int32) (a1 : Int32) (a2 : Int32) (out : Int32) (h : fX12_isIn a0 a1 a2 = out) (hK : Q (some (.int out)) (go_mk tx μ)) : Go w 0 0 0 mtX12_isIn 0 [(0, .int a0), (1, .int a1), (2, .int a2)] [] (go_mk tx μ) (go_Z w Q) := by
  unfold fX12_isIn at h
  refine go_iload_n dX12_isIn_0 0 rfl ?_
  refine go_iload_n dX12_isIn_1 1 rfl ?_
  refine go_icmp_lt 14 dX12_isIn_2 (by decide) (fun hc => ?_) (fun hc => ?_)
  · have h := go_ifp hc h
    refine go_iconst (v := 0) dX12_isIn_14 (by decide) ?_
    subst h
    exact go_zret dX12_isIn_15 rfl (Or.inl rfl) hK
  · have h := go_ifn hc h
    refine go_iload_n dX12_isIn_5 0 rfl ?_
    refine go_iload_n dX12_isIn_6 2 rfl ?_
    refine go_icmp_gt 14 dX12_isIn_7 (by decide) (fun hc => ?_) (fun hc => ?_)
    · have h := go_ifp hc h
      refine go_iconst (v := 0) dX12_isIn_14 (by decide) ?_
      subst h
      exact go_zret dX12_isIn_15 rfl (Or.inl rfl) hK
    · have h := go_ifn hc h
      refine go_iconst (v := 1) dX12_isIn_10 (by decide) ?_
      refine go_goto 15 dX12_isIn_11 (by decide) ?_
      subst h
      exact go_zret dX12_isIn_15 rfl (Or.inr rfl) hK
theorem ctX12_isIn {w : go_Wd} {tx : Nat} {μ : PM} {a0 : Int32} {a1 : Int32} {a2 : Int32} {r : Int32}  (h : fX12_isIn a0 a1 a2 = r) : Ct w 0 0 0 mtX12_isIn [.int a0, .int a1, .int a2] (go_mk tx μ) (fun r' M' => r' = some (.int r) ∧ M' = go_mk tx μ) :=
  go_entry rfl (by decide) (Nat.le_of_ble_eq_true rfl) (cmX12_isIn w tx _ μ a0 a1 a2 _ h ⟨rfl, rfl⟩)
theorem bzX12_isIn {a0 : Int32} {a1 : Int32} {a2 : Int32} {r : Int32} (h : fX12_isIn a0 a1 a2 = r) : r = 0 ∨ r = 1 := by
  subst h
  unfold fX12_isIn
  repeat' split
  all_goals first | exact Or.inl rfl | exact Or.inr rfl
def fX12_has (a0 : Int32) (a1 : Int32) : Int32 :=
  (if ((a0 >>> (a1 &&& 31)) &&& 1) = 1 then 1 else 0)
set_option maxRecDepth 20000 in
set_option maxHeartbeats 4000000 in
theorem cmX12_has (w : go_Wd) (tx : Nat) (Q : Option Value → go_M → Prop) (μ : PM) (a0 : Int32) (a1 : Int32) (out : Int32) (h : fX12_has a0 a1 = out) (hK : Q (some (.int out)) (go_mk tx μ)) : Go w 0 0 0 mtX12_has 0 [(0, .int a0), (1, .int a1)] [] (go_mk tx μ) (go_Z w Q) := by
  unfold fX12_has at h
  refine go_iload_n dX12_has_0 0 rfl ?_
  refine go_iload_n dX12_has_1 1 rfl ?_
  refine go_ishr dX12_has_2 ?_
  refine go_iconst (v := 1) dX12_has_3 (by decide) ?_
  refine go_iand dX12_has_4 ?_
  refine go_iconst (v := 1) dX12_has_5 (by decide) ?_
  refine go_icmp_ne 13 dX12_has_6 (by decide) (fun hc => ?_) (fun hc => ?_)
  · have h := go_ifn hc h
    refine go_iconst (v := 0) dX12_has_13 (by decide) ?_
    subst h
    exact go_zret dX12_has_14 rfl (Or.inl rfl) hK
  · have h := go_ifp hc h
    refine go_iconst (v := 1) dX12_has_9 (by decide) ?_
    refine go_goto 14 dX12_has_10 (by decide) ?_
    subst h
    exact go_zret dX12_has_14 rfl (Or.inr rfl) hK
theorem ctX12_has {w : go_Wd} {tx : Nat} {μ : PM} {a0 : Int32} {a1 : Int32} {r : Int32}  (h : fX12_has a0 a1 = r) : Ct w 0 0 0 mtX12_has [.int a0, .int a1] (go_mk tx μ) (fun r' M' => r' = some (.int r) ∧ M' = go_mk tx μ) :=
  go_entry rfl (by decide) (Nat.le_of_ble_eq_true rfl) (cmX12_has w tx _ μ a0 a1 _ h ⟨rfl, rfl⟩)
theorem bzX12_has {a0 : Int32} {a1 : Int32} {r : Int32} (h : fX12_has a0 a1 = r) : r = 0 ∨ r = 1 := by
  subst h
  unfold fX12_has
  repeat' split
  all_goals first | exact Or.inl rfl | exact Or.inr rfl
def fX12_isName (μ : PM) (a0 : Int32) : Int32 :=
  (fX12_isIn a0 0 ((μ.1 402 0) - 1))
set_option maxRecDepth 20000 in
set_option maxHeartbeats 4000000 in
theorem cmX12_isName (w : go_Wd) (tx : Nat) (Q : Option Value → go_M → Prop) (μ : PM) (a0 : Int32) (out : Int32) (h : fX12_isName μ a0 = out) (hK : Q (some (.int out)) (go_mk tx μ)) : Go w 1 0 0 mtX12_isName 0 [(0, .ref 401), (1, .int a0)] [] (go_mk tx μ) (go_Z w Q) := by
  unfold fX12_isName at h
  refine go_iload_n dX12_isName_0 1 rfl ?_
  refine go_iconst (v := 0) dX12_isName_1 (by decide) ?_
  refine go_aload_n dX12_isName_2 0 rfl ?_
  refine pp_getR dX12_isName_3 ff_X12_7 (Or.inr ⟨_, rfl⟩) sh_401 rf_401_0 ?_
  refine go_iconst (v := 0) dX12_isName_6 (by decide) ?_
  refine pp_ildc (q := 0) dX12_isName_7 sh_402 (by decide) ?_
  refine go_iconst (v := 1) dX12_isName_8 (by decide) ?_
  refine go_isub dX12_isName_9 ?_
  refine pp_callS (as := [.int a0, .int 0, .int ((μ.1 402 0) - 1)]) (st := []) (rv := (some (.int (fX12_isIn a0 0 ((μ.1 402 0) - 1))))) (μ1 := μ) (st1 := [.int (fX12_isIn a0 0 ((μ.1 402 0) - 1))]) dX12_isName_10 ll_X12_63 (ctX12_isIn  rfl) rfl (Nat.le_of_ble_eq_true rfl) (Nat.le_of_ble_eq_true rfl) (go_Z_up w _) rfl rfl ?_
  subst h
  exact go_zret dX12_isName_13 rfl (bzX12_isIn rfl) hK
theorem ctX12_isName {w : go_Wd} {tx : Nat} {μ : PM} {a0 : Int32} {r : Int32}  (h : fX12_isName μ a0 = r) : Ct w 1 0 0 mtX12_isName [.ref 401, .int a0] (go_mk tx μ) (fun r' M' => r' = some (.int r) ∧ M' = go_mk tx μ) :=
  go_entry rfl (by decide) (Nat.le_of_ble_eq_true rfl) (cmX12_isName w tx _ μ a0 _ h ⟨rfl, rfl⟩)
theorem bzX12_isName {μ : PM} {a0 : Int32} {r : Int32} (h : fX12_isName μ a0 = r) : r = 0 ∨ r = 1 := by
  subst h
  unfold fX12_isName
  repeat' split
  all_goals first | exact Or.inl rfl | exact Or.inr rfl | exact bzX12_isIn rfl
def fX12_get (μ : PM) (a0 : Int32) (a1 : Int32) : Option (Int32) :=
  go_chk ((12 + (2 * a0)) + a1) 1792 <| some ((μ.1 402 ((12 + (2 * a0)) + a1).toNatClampNeg))
set_option maxRecDepth 20000 in
set_option maxHeartbeats 4000000 in
theorem cmX12_get (w : go_Wd) (tx : Nat) (Q : Option Value → go_M → Prop) (μ : PM) (a0 : Int32) (a1 : Int32) (out : Int32) (h : fX12_get μ a0 a1 = some out) (hK : Q (some (.int out)) (go_mk tx μ)) : Go w 0 0 0 mtX12_get 0 [(0, .ref 401), (1, .int a0), (2, .int a1)] [] (go_mk tx μ) (go_Z w Q) := by
  unfold fX12_get at h
  refine go_aload_n dX12_get_0 0 rfl ?_
  refine pp_getR dX12_get_1 ff_X12_7 (Or.inr ⟨_, rfl⟩) sh_401 rf_401_0 ?_
  refine go_bipush (v := 12) dX12_get_4 (by decide) ?_
  refine go_iconst (v := 2) dX12_get_6 (by decide) ?_
  refine go_iload_n dX12_get_7 1 rfl ?_
  refine go_imul dX12_get_8 ?_
  refine go_iadd dX12_get_9 ?_
  refine go_iload_n dX12_get_10 2 rfl ?_
  refine go_iadd dX12_get_11 ?_
  obtain ⟨hz1, h⟩ := go_chk_e h
  refine pp_ild dX12_get_12 sh_402 hz1 ?_
  cases h
  exact go_iret dX12_get_13 rfl hK
theorem ctX12_get {w : go_Wd} {tx : Nat} {μ : PM} {a0 : Int32} {a1 : Int32} {r : Int32}  (h : fX12_get μ a0 a1 = some r) : Ct w 0 0 0 mtX12_get [.ref 401, .int a0, .int a1] (go_mk tx μ) (fun r' M' => r' = some (.int r) ∧ M' = go_mk tx μ) :=
  go_entry rfl (by decide) (Nat.le_of_ble_eq_true rfl) (cmX12_get w tx _ μ a0 a1 _ h ⟨rfl, rfl⟩)
def fX12_put (μ : PM) (a0 : Int32) (a1 : Int32) (a2 : Int32) : Option (PM) :=
  go_chk ((12 + (2 * a0)) + a1) 1792 <| go_let (pm_wi μ 402 ((12 + (2 * a0)) + a1).toNatClampNeg a2) fun μ1 => some (μ1)
set_option maxRecDepth 20000 in
set_option maxHeartbeats 4000000 in
theorem cmX12_put (w : go_Wd) (tx : Nat) (Q : Option Value → go_M → Prop) (μ : PM) (a0 : Int32) (a1 : Int32) (a2 : Int32) (out : PM) (h : fX12_put μ a0 a1 a2 = some out) (hK : Q none (go_mk tx out)) : Go w 0 0 0 mtX12_put 0 [(0, .ref 401), (1, .int a0), (2, .int a1), (3, .int a2)] [] (go_mk tx μ) (go_Z w Q) := by
  unfold fX12_put at h
  refine go_aload_n dX12_put_0 0 rfl ?_
  refine pp_getR dX12_put_1 ff_X12_7 (Or.inr ⟨_, rfl⟩) sh_401 rf_401_0 ?_
  refine go_bipush (v := 12) dX12_put_4 (by decide) ?_
  refine go_iconst (v := 2) dX12_put_6 (by decide) ?_
  refine go_iload_n dX12_put_7 1 rfl ?_
  refine go_imul dX12_put_8 ?_
  refine go_iadd dX12_put_9 ?_
  refine go_iload_n dX12_put_10 2 rfl ?_
  refine go_iadd dX12_put_11 ?_
  refine go_iload_n dX12_put_12 3 rfl ?_
  obtain ⟨hz2, h⟩ := go_chk_e h
  obtain ⟨μ1, hμ1, h⟩ := go_let_e h
  refine pp_ist dX12_put_13 sh_402 hz2 hμ1 ?_
  cases h
  exact go_vret dX12_put_14 rfl hK
theorem ctX12_put {w : go_Wd} {tx : Nat} {μ : PM} {a0 : Int32} {a1 : Int32} {a2 : Int32} {μ1 : PM}  (h : fX12_put μ a0 a1 a2 = some μ1) : Ct w 0 0 0 mtX12_put [.ref 401, .int a0, .int a1, .int a2] (go_mk tx μ) (fun r' M' => r' = none ∧ M' = go_mk tx μ1) :=
  go_entry rfl (by decide) (Nat.le_of_ble_eq_true rfl) (cmX12_put w tx _ μ a0 a1 a2 _ h ⟨rfl, rfl⟩)
def lbX12_lengthOf_4 (a0 : Int32)  (v1 : Int32) (v2 : Int32) : Option ((Int32 × Int32) ⊕ (Int32)) :=
  (if v2 ≤ 0 then some (.inr (v1)) else some (.inl ((v1 + 1), (v2 / 10))))
def fX12_lengthOf (a0 : Int32) : Option (Int32) :=
  ((lp (fun s => lbX12_lengthOf_4 a0 s.1 s.2) go_fuel (0, a0)).bind fun ρ1 => some ρ1)
def ggX12_lengthOf_4 (w : go_Wd) (tx : Nat) (Q : Option Value → go_M → Prop) (μ : PM) (a0 : Int32)  (s : Int32 × Int32) : Prop := Go w 0 0 0 mtX12_lengthOf 4 [(1, .int s.1), (2, .int s.2)] [] (go_mk tx μ) (go_Z w Q)
def eeX12_lengthOf_4 (w : go_Wd) (tx : Nat) (Q : Option Value → go_M → Prop) (μ : PM) (a0 : Int32)  (y : Int32) : Prop := Q (some (.int y)) (go_mk tx μ)
set_option maxRecDepth 20000 in
set_option maxHeartbeats 4000000 in
theorem lqX12_lengthOf_4 (w : go_Wd) (tx : Nat) (Q : Option Value → go_M → Prop) (μ : PM) (a0 : Int32)   (v1 : Int32) (v2 : Int32) (out : (Int32 × Int32) ⊕ (Int32)) (h : lbX12_lengthOf_4 a0  v1 v2 = some out) (hK : go_out (ggX12_lengthOf_4 w tx Q μ a0 ) (eeX12_lengthOf_4 w tx Q μ a0 ) out) : ggX12_lengthOf_4 w tx Q μ a0  (v1, v2) := by
  unfold lbX12_lengthOf_4 at h
  show Go w 0 0 0 mtX12_lengthOf 4 [(1, .int v1), (2, .int v2)] [] (go_mk tx μ) (go_Z w Q)
  refine go_iload_n dX12_lengthOf_4 1 rfl ?_
  refine go_if_le 19 dX12_lengthOf_5 (by decide) (fun hc => ?_) (fun hc => ?_)
  · have h := go_ifp hc h
    refine go_iload_n dX12_lengthOf_19 0 rfl ?_
    cases h
    exact go_iret dX12_lengthOf_20 rfl hK
  · have h := go_ifn hc h
    refine go_iinc (v := (v1 + 1)) dX12_lengthOf_8 0 rfl rfl (by decide) rfl ?_
    show Go w 0 0 0 mtX12_lengthOf 11 [(1, .int (v1 + 1)), (2, .int v2)] [] (go_mk tx μ) (go_Z w Q)
    refine go_iload_n dX12_lengthOf_11 1 rfl ?_
    refine go_bipush (v := 10) dX12_lengthOf_12 (by decide) ?_
    refine go_idiv dX12_lengthOf_14 (by decide) ?_
    refine go_istore_n dX12_lengthOf_15 (by decide) rfl ?_
    show Go w 0 0 0 mtX12_lengthOf 16 [(2, .int (v2 / 10)), (1, .int (v1 + 1))] [] (go_mk tx μ) (go_Z w Q)
    refine go_goto 4 dX12_lengthOf_16 (by decide) ?_
    cases h
    have hK : Go w 0 0 0 mtX12_lengthOf 4 [(1, .int (v1 + 1)), (2, .int (v2 / 10))] [] (go_mk tx μ) (go_Z w Q) := hK
    exact go_pick [1, 0] rfl hK
set_option maxRecDepth 20000 in
set_option maxHeartbeats 4000000 in
theorem cmX12_lengthOf (w : go_Wd) (tx : Nat) (Q : Option Value → go_M → Prop) (μ : PM) (a0 : Int32) (out : Int32) (h : fX12_lengthOf a0 = some out) (hK : Q (some (.int out)) (go_mk tx μ)) : Go w 0 0 0 mtX12_lengthOf 0 [(0, .int a0)] [] (go_mk tx μ) (go_Z w Q) := by
  unfold fX12_lengthOf at h
  refine go_iconst (v := 0) dX12_lengthOf_0 (by decide) ?_
  refine go_istore_n dX12_lengthOf_1 (by decide) rfl ?_
  show Go w 0 0 0 mtX12_lengthOf 2 [(1, .int 0), (0, .int a0)] [] (go_mk tx μ) (go_Z w Q)
  refine go_iload_n dX12_lengthOf_2 1 rfl ?_
  refine go_istore_n dX12_lengthOf_3 (by decide) rfl ?_
  show Go w 0 0 0 mtX12_lengthOf 4 [(2, .int a0), (1, .int 0), (0, .int a0)] [] (go_mk tx μ) (go_Z w Q)
  obtain ⟨ρ1, hρ1, h⟩ := go_bind h
  refine go_pick [1, 0] rfl ?_
  refine go_lp (G := ggX12_lengthOf_4 w tx Q μ a0 ) (E := eeX12_lengthOf_4 w tx Q μ a0 ) (fun s out h hK => lqX12_lengthOf_4 w tx Q μ a0   s.1 s.2 out h hK) _ _ _ hρ1 ?_
  cases h
  exact hK
theorem ctX12_lengthOf {w : go_Wd} {tx : Nat} {μ : PM} {a0 : Int32} {r : Int32}  (h : fX12_lengthOf a0 = some r) : Ct w 0 0 0 mtX12_lengthOf [.int a0] (go_mk tx μ) (fun r' M' => r' = some (.int r) ∧ M' = go_mk tx μ) :=
  go_entry rfl (by decide) (Nat.le_of_ble_eq_true rfl) (cmX12_lengthOf w tx _ μ a0 _ h ⟨rfl, rfl⟩)
def lbX12_areSounds_14 (a0 : Int32)  (v1 : Int32) : Option ((Int32) ⊕ (Int32)) :=
  (if v1 ≤ 0 then some (.inr (1)) else (if (jrem v1 10) = 0 then some (.inr (0)) else some (.inl (v1 / 10))))
def fX12_areSounds (a0 : Int32) : Option (Int32) :=
  (if (fX12_isIn a0 1 99999) = 0 then some (0) else ((lp (fun s => lbX12_areSounds_14 a0 s) go_fuel a0).bind fun ρ1 => some ρ1))
def ggX12_areSounds_14 (w : go_Wd) (tx : Nat) (Q : Option Value → go_M → Prop) (μ : PM) (a0 : Int32)  (s : Int32) : Prop := Go w 1 0 0 mtX12_areSounds 14 [(1, .int s)] [] (go_mk tx μ) (go_Z w Q)
def eeX12_areSounds_14 (w : go_Wd) (tx : Nat) (Q : Option Value → go_M → Prop) (μ : PM) (a0 : Int32)  (y : Int32) : Prop := Q (some (.int y)) (go_mk tx μ)
set_option maxRecDepth 20000 in
set_option maxHeartbeats 4000000 in
theorem lqX12_areSounds_14 (w : go_Wd) (tx : Nat) (Q : Option Value → go_M → Prop) (μ : PM) (a0 : Int32)   (v1 : Int32) (out : (Int32) ⊕ (Int32)) (h : lbX12_areSounds_14 a0  v1 = some out) (hK : go_out (ggX12_areSounds_14 w tx Q μ a0 ) (eeX12_areSounds_14 w tx Q μ a0 ) out) : ggX12_areSounds_14 w tx Q μ a0  v1 := by
  unfold lbX12_areSounds_14 at h
  show Go w 1 0 0 mtX12_areSounds 14 [(1, .int v1)] [] (go_mk tx μ) (go_Z w Q)
  refine go_iload_n dX12_areSounds_14 0 rfl ?_
  refine go_if_le 35 dX12_areSounds_15 (by decide) (fun hc => ?_) (fun hc => ?_)
  · have h := go_ifp hc h
    refine go_iconst (v := 1) dX12_areSounds_35 (by decide) ?_
    cases h
    exact go_zret dX12_areSounds_36 rfl (Or.inr rfl) hK
  · have h := go_ifn hc h
    refine go_iload_n dX12_areSounds_18 0 rfl ?_
    refine go_bipush (v := 10) dX12_areSounds_19 (by decide) ?_
    refine go_iremJ dX12_areSounds_21 (by decide) ?_
    refine go_if_ne 27 dX12_areSounds_22 (by decide) (fun hc => ?_) (fun hc => ?_)
    · have h := go_ifn hc h
      refine go_iload_n dX12_areSounds_27 0 rfl ?_
      refine go_bipush (v := 10) dX12_areSounds_28 (by decide) ?_
      refine go_idiv dX12_areSounds_30 (by decide) ?_
      refine go_istore_n dX12_areSounds_31 (by decide) rfl ?_
      show Go w 1 0 0 mtX12_areSounds 32 [(1, .int (v1 / 10))] [] (go_mk tx μ) (go_Z w Q)
      refine go_goto 14 dX12_areSounds_32 (by decide) ?_
      cases h
      have hK : Go w 1 0 0 mtX12_areSounds 14 [(1, .int (v1 / 10))] [] (go_mk tx μ) (go_Z w Q) := hK
      exact go_pick [0] rfl hK
    · have h := go_ifp hc h
      refine go_iconst (v := 0) dX12_areSounds_25 (by decide) ?_
      cases h
      exact go_zret dX12_areSounds_26 rfl (Or.inl rfl) hK
set_option maxRecDepth 20000 in
set_option maxHeartbeats 4000000 in
theorem cmX12_areSounds (w : go_Wd) (tx : Nat) (Q : Option Value → go_M → Prop) (μ : PM) (a0 : Int32) (out : Int32) (h : fX12_areSounds a0 = some out) (hK : Q (some (.int out)) (go_mk tx μ)) : Go w 1 0 0 mtX12_areSounds 0 [(0, .int a0)] [] (go_mk tx μ) (go_Z w Q) := by
  unfold fX12_areSounds at h
  refine go_iload_n dX12_areSounds_0 0 rfl ?_
  refine go_iconst (v := 1) dX12_areSounds_1 (by decide) ?_
  refine go_ldc dX12_areSounds_2 kk_X12_67 ?_
  refine pp_callS (as := [.int a0, .int 1, .int 99999]) (st := []) (rv := (some (.int (fX12_isIn a0 1 99999)))) (μ1 := μ) (st1 := [.int (fX12_isIn a0 1 99999)]) dX12_areSounds_4 ll_X12_63 (ctX12_isIn  rfl) rfl (Nat.le_of_ble_eq_true rfl) (Nat.le_of_ble_eq_true rfl) (go_Z_up w _) rfl rfl ?_
  refine go_if_ne 12 dX12_areSounds_7 (by decide) (fun hc => ?_) (fun hc => ?_)
  · have h := go_ifn hc h
    refine go_iload_n dX12_areSounds_12 0 rfl ?_
    refine go_istore_n dX12_areSounds_13 (by decide) rfl ?_
    show Go w 1 0 0 mtX12_areSounds 14 [(1, .int a0), (0, .int a0)] [] (go_mk tx μ) (go_Z w Q)
    obtain ⟨ρ1, hρ1, h⟩ := go_bind h
    refine go_pick [0] rfl ?_
    refine go_lp (G := ggX12_areSounds_14 w tx Q μ a0 ) (E := eeX12_areSounds_14 w tx Q μ a0 ) (fun s out h hK => lqX12_areSounds_14 w tx Q μ a0   s out h hK) _ _ _ hρ1 ?_
    cases h
    exact hK
  · have h := go_ifp hc h
    refine go_iconst (v := 0) dX12_areSounds_10 (by decide) ?_
    cases h
    exact go_zret dX12_areSounds_11 rfl (Or.inl rfl) hK
theorem ctX12_areSounds {w : go_Wd} {tx : Nat} {μ : PM} {a0 : Int32} {r : Int32}  (h : fX12_areSounds a0 = some r) : Ct w 1 0 0 mtX12_areSounds [.int a0] (go_mk tx μ) (fun r' M' => r' = some (.int r) ∧ M' = go_mk tx μ) :=
  go_entry rfl (by decide) (Nat.le_of_ble_eq_true rfl) (cmX12_areSounds w tx _ μ a0 _ h ⟨rfl, rfl⟩)
def fJ6_bitCount_0f7a4 (a0 : Int32) : Int32 :=
  go_let ((a0 - ((jushr a0 1) &&& 1431655765))) fun x1 => go_let (((x1 &&& 858993459) + ((jushr x1 2) &&& 858993459))) fun x2 => go_let (((x2 + (jushr x2 4)) &&& 252645135)) fun x3 => go_let ((x3 + (jushr x3 8))) fun x4 => go_let ((x4 + (jushr x4 16))) fun x5 => (x5 &&& 63)
set_option maxRecDepth 20000 in
set_option maxHeartbeats 4000000 in
theorem cmJ6_bitCount_0f7a4 (w : go_Wd) (tx : Nat) (Q : Option Value → go_M → Prop) (μ : PM) (a0 : Int32) (out : Int32) (h : fJ6_bitCount_0f7a4 a0 = out) (hK : Q (some (.int out)) (go_mk tx μ)) : Go w 0 0 0 mtJ6_bitCount_0f7a4 0 [(0, .int a0)] [] (go_mk tx μ) (go_Z w Q) := by
  unfold fJ6_bitCount_0f7a4 at h
  refine go_iload_n dJ6_bitCount_0f7a4_0 0 rfl ?_
  refine go_iload_n dJ6_bitCount_0f7a4_1 0 rfl ?_
  refine go_iconst (v := 1) dJ6_bitCount_0f7a4_2 (by decide) ?_
  refine go_iushr (v := (jushr a0 1)) dJ6_bitCount_0f7a4_3 rfl ?_
  refine go_ldcw dJ6_bitCount_0f7a4_4 kk_J6_265 ?_
  refine go_iand dJ6_bitCount_0f7a4_7 ?_
  refine go_isub dJ6_bitCount_0f7a4_8 ?_
  obtain ⟨x1, hx1, h⟩ := go_let_e h
  refine go_top hx1 ?_
  refine go_istore_n dJ6_bitCount_0f7a4_9 (by decide) rfl ?_
  show Go w 0 0 0 mtJ6_bitCount_0f7a4 10 [(0, .int x1)] [] (go_mk tx μ) (go_Z w Q)
  refine go_iload_n dJ6_bitCount_0f7a4_10 0 rfl ?_
  refine go_ldcw dJ6_bitCount_0f7a4_11 kk_J6_266 ?_
  refine go_iand dJ6_bitCount_0f7a4_14 ?_
  refine go_iload_n dJ6_bitCount_0f7a4_15 0 rfl ?_
  refine go_iconst (v := 2) dJ6_bitCount_0f7a4_16 (by decide) ?_
  refine go_iushr (v := (jushr x1 2)) dJ6_bitCount_0f7a4_17 rfl ?_
  refine go_ldcw dJ6_bitCount_0f7a4_18 kk_J6_266 ?_
  refine go_iand dJ6_bitCount_0f7a4_21 ?_
  refine go_iadd dJ6_bitCount_0f7a4_22 ?_
  obtain ⟨x2, hx2, h⟩ := go_let_e h
  refine go_top hx2 ?_
  refine go_istore_n dJ6_bitCount_0f7a4_23 (by decide) rfl ?_
  show Go w 0 0 0 mtJ6_bitCount_0f7a4 24 [(0, .int x2)] [] (go_mk tx μ) (go_Z w Q)
  refine go_iload_n dJ6_bitCount_0f7a4_24 0 rfl ?_
  refine go_iload_n dJ6_bitCount_0f7a4_25 0 rfl ?_
  refine go_iconst (v := 4) dJ6_bitCount_0f7a4_26 (by decide) ?_
  refine go_iushr (v := (jushr x2 4)) dJ6_bitCount_0f7a4_27 rfl ?_
  refine go_iadd dJ6_bitCount_0f7a4_28 ?_
  refine go_ldcw dJ6_bitCount_0f7a4_29 kk_J6_267 ?_
  refine go_iand dJ6_bitCount_0f7a4_32 ?_
  obtain ⟨x3, hx3, h⟩ := go_let_e h
  refine go_top hx3 ?_
  refine go_istore_n dJ6_bitCount_0f7a4_33 (by decide) rfl ?_
  show Go w 0 0 0 mtJ6_bitCount_0f7a4 34 [(0, .int x3)] [] (go_mk tx μ) (go_Z w Q)
  refine go_iload_n dJ6_bitCount_0f7a4_34 0 rfl ?_
  refine go_iload_n dJ6_bitCount_0f7a4_35 0 rfl ?_
  refine go_bipush (v := 8) dJ6_bitCount_0f7a4_36 (by decide) ?_
  refine go_iushr (v := (jushr x3 8)) dJ6_bitCount_0f7a4_38 rfl ?_
  refine go_iadd dJ6_bitCount_0f7a4_39 ?_
  obtain ⟨x4, hx4, h⟩ := go_let_e h
  refine go_top hx4 ?_
  refine go_istore_n dJ6_bitCount_0f7a4_40 (by decide) rfl ?_
  show Go w 0 0 0 mtJ6_bitCount_0f7a4 41 [(0, .int x4)] [] (go_mk tx μ) (go_Z w Q)
  refine go_iload_n dJ6_bitCount_0f7a4_41 0 rfl ?_
  refine go_iload_n dJ6_bitCount_0f7a4_42 0 rfl ?_
  refine go_bipush (v := 16) dJ6_bitCount_0f7a4_43 (by decide) ?_
  refine go_iushr (v := (jushr x4 16)) dJ6_bitCount_0f7a4_45 rfl ?_
  refine go_iadd dJ6_bitCount_0f7a4_46 ?_
  obtain ⟨x5, hx5, h⟩ := go_let_e h
  refine go_top hx5 ?_
  refine go_istore_n dJ6_bitCount_0f7a4_47 (by decide) rfl ?_
  show Go w 0 0 0 mtJ6_bitCount_0f7a4 48 [(0, .int x5)] [] (go_mk tx μ) (go_Z w Q)
  refine go_iload_n dJ6_bitCount_0f7a4_48 0 rfl ?_
  refine go_bipush (v := 63) dJ6_bitCount_0f7a4_49 (by decide) ?_
  refine go_iand dJ6_bitCount_0f7a4_51 ?_
  subst h
  exact go_iret dJ6_bitCount_0f7a4_52 rfl hK
theorem ctJ6_bitCount_0f7a4 {w : go_Wd} {tx : Nat} {μ : PM} {a0 : Int32} {r : Int32}  (h : fJ6_bitCount_0f7a4 a0 = r) : Ct w 0 0 0 mtJ6_bitCount_0f7a4 [.int a0] (go_mk tx μ) (fun r' M' => r' = some (.int r) ∧ M' = go_mk tx μ) :=
  go_entry rfl (by decide) (Nat.le_of_ble_eq_true rfl) (cmJ6_bitCount_0f7a4 w tx _ μ a0 _ h ⟨rfl, rfl⟩)