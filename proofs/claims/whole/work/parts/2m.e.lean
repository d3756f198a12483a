def fX12_sortOf (μ : PM)  : Int32 :=
  (if (fX12_isWord μ (fX12_w5 109 101 108 116 115)) = 0 then (if (fX12_isWord μ (fX12_w6 98 114 101 97 107 115)) = 0 then (if (fX12_isWord μ (fX12_w6 99 108 97 105 109 115)) = 0 then (if (fX12_isWord μ (fX12_w4 110 97 109 101)) = 0 then (if (fX12_isWord μ (fX12_w6 102 97 109 105 108 121)) = 0 then (if (fX12_isWord μ (fX12_w4 99 97 108 108)) = 0 then (if (fX12_isWord μ (fX12_w3 108 97 121)) = 0 then (if (fX12_isWord μ (fX12_w4 116 97 107 101)) = 0 then (if (fX12_isWord μ (fX12_w5 115 116 97 110 100)) = 0 then (if (fX12_isWord μ (fX12_w4 115 105 110 107)) = 0 then (if (fX12_isWord μ (fX12_w4 104 111 117 114)) = 0 then (-1) else 10) else 9) else 8) else 7) else 6) else 5) else 4) else 3) else 2) else 1) else 0)
set_option maxRecDepth 20000 in
set_option maxHeartbeats 4000000 in
theorem cmX12_sortOf (w : go_Wd) (tx : Nat) (Q : Option Value → go_M → Prop) (μ : PM)  (out : Int32) (h : fX12_sortOf μ = out) (hK : Q (some (.int out)) (go_mk tx μ)) : Go w 5 0 0 mtX12_sortOf 0 [(0, .ref 401)] [] (go_mk tx μ) (go_Z w Q) := by
  unfold fX12_sortOf at h
  refine go_aload_n dX12_sortOf_0 0 rfl ?_
  refine go_bipush (v := 109) dX12_sortOf_1 (by decide) ?_
  refine go_bipush (v := 101) dX12_sortOf_3 (by decide) ?_
  refine go_bipush (v := 108) dX12_sortOf_5 (by decide) ?_
  refine go_bipush (v := 116) dX12_sortOf_7 (by decide) ?_
  refine go_bipush (v := 115) dX12_sortOf_9 (by decide) ?_
  refine pp_callS (as := [.int 109, .int 101, .int 108, .int 116, .int 115]) (st := [.ref 401]) (rv := (some (.long (fX12_w5 109 101 108 116 115)))) (μ1 := μ) (st1 := [.long (fX12_w5 109 101 108 116 115), .ref 401]) dX12_sortOf_11 ll_X12_135 (ctX12_w5  rfl) rfl (Nat.le_of_ble_eq_true rfl) (Nat.le_of_ble_eq_true rfl) (go_Z_up w _) rfl rfl ?_
  refine pp_callV (as := [.long (fX12_w5 109 101 108 116 115)]) (st := []) (rv := (some (.int (fX12_isWord μ (fX12_w5 109 101 108 116 115))))) (μ1 := μ) (st1 := [.int (fX12_isWord μ (fX12_w5 109 101 108 116 115))]) dX12_sortOf_14 ll_X12_187 sh_401 (by decide) rfl (ctX12_isWord  rfl) rfl (Nat.le_of_ble_eq_true rfl) (Nat.le_of_ble_eq_true rfl) (go_Z_up w _) rfl rfl ?_
  refine go_if_eq 22 dX12_sortOf_17 (by decide) (fun hc => ?_) (fun hc => ?_)
  · have h := go_ifp hc h
    refine go_aload_n dX12_sortOf_22 0 rfl ?_
    refine go_bipush (v := 98) dX12_sortOf_23 (by decide) ?_
    refine go_bipush (v := 114) dX12_sortOf_25 (by decide) ?_
    refine go_bipush (v := 101) dX12_sortOf_27 (by decide) ?_
    refine go_bipush (v := 97) dX12_sortOf_29 (by decide) ?_
    refine go_bipush (v := 107) dX12_sortOf_31 (by decide) ?_
    refine go_bipush (v := 115) dX12_sortOf_33 (by decide) ?_
    refine pp_callS (as := [.int 98, .int 114, .int 101, .int 97, .int 107, .int 115]) (st := [.ref 401]) (rv := (some (.long (fX12_w6 98 114 101 97 107 115)))) (μ1 := μ) (st1 := [.long (fX12_w6 98 114 101 97 107 115), .ref 401]) dX12_sortOf_35 ll_X12_145 (ctX12_w6  rfl) rfl (Nat.le_of_ble_eq_true rfl) (Nat.le_of_ble_eq_true rfl) (go_Z_up w _) rfl rfl ?_
    refine pp_callV (as := [.long (fX12_w6 98 114 101 97 107 115)]) (st := []) (rv := (some (.int (fX12_isWord μ (fX12_w6 98 114 101 97 107 115))))) (μ1 := μ) (st1 := [.int (fX12_isWord μ (fX12_w6 98 114 101 97 107 115))]) dX12_sortOf_38 ll_X12_187 sh_401 (by decide) rfl (ctX12_isWord  rfl) rfl (Nat.le_of_ble_eq_true rfl) (Nat.le_of_ble_eq_true rfl) (go_Z_up w _) rfl rfl ?_
    refine go_if_eq 46 dX12_sortOf_41 (by decide) (fun hc => ?_) (fun hc => ?_)
    · have h := go_ifp hc h
      refine go_aload_n dX12_sortOf_46 0 rfl ?_
      refine go_bipush (v := 99) dX12_sortOf_47 (by decide) ?_
      refine go_bipush (v := 108) dX12_sortOf_49 (by decide) ?_
      refine go_bipush (v := 97) dX12_sortOf_51 (by decide) ?_
      refine go_bipush (v := 105) dX12_sortOf_53 (by decide) ?_
      refine go_bipush (v := 109) dX12_sortOf_55 (by decide) ?_
      refine go_bipush (v := 115) dX12_sortOf_57 (by decide) ?_
      refine pp_callS (as := [.int 99, .int 108, .int 97, .int 105, .int 109, .int 115]) (st := [.ref 401]) (rv := (some (.long (fX12_w6 99 108 97 105 109 115)))) (μ1 := μ) (st1 := [.long (fX12_w6 99 108 97 105 109 115), .ref 401]) dX12_sortOf_59 ll_X12_145 (ctX12_w6  rfl) rfl (Nat.le_of_ble_eq_true rfl) (Nat.le_of_ble_eq_true rfl) (go_Z_up w _) rfl rfl ?_
      refine pp_callV (as := [.long (fX12_w6 99 108 97 105 109 115)]) (st := []) (rv := (some (.int (fX12_isWord μ (fX12_w6 99 108 97 105 109 115))))) (μ1 := μ) (st1 := [.int (fX12_isWord μ (fX12_w6 99 108 97 105 109 115))]) dX12_sortOf_62 ll_X12_187 sh_401 (by decide) rfl (ctX12_isWord  rfl) rfl (Nat.le_of_ble_eq_true rfl) (Nat.le_of_ble_eq_true rfl) (go_Z_up w _) rfl rfl ?_
      refine go_if_eq 70 dX12_sortOf_65 (by decide) (fun hc => ?_) (fun hc => ?_)
      · have h := go_ifp hc h
        refine go_aload_n dX12_sortOf_70 0 rfl ?_
        refine go_bipush (v := 110) dX12_sortOf_71 (by decide) ?_
        refine go_bipush (v := 97) dX12_sortOf_73 (by decide) ?_
        refine go_bipush (v := 109) dX12_sortOf_75 (by decide) ?_
        refine go_bipush (v := 101) dX12_sortOf_77 (by decide) ?_
        refine pp_callS (as := [.int 110, .int 97, .int 109, .int 101]) (st := [.ref 401]) (rv := (some (.long (fX12_w4 110 97 109 101)))) (μ1 := μ) (st1 := [.long (fX12_w4 110 97 109 101), .ref 401]) dX12_sortOf_79 ll_X12_131 (ctX12_w4  rfl) rfl (Nat.le_of_ble_eq_true rfl) (Nat.le_of_ble_eq_true rfl) (go_Z_up w _) rfl rfl ?_
        refine pp_callV (as := [.long (fX12_w4 110 97 109 101)]) (st := []) (rv := (some (.int (fX12_isWord μ (fX12_w4 110 97 109 101))))) (μ1 := μ) (st1 := [.int (fX12_isWord μ (fX12_w4 110 97 109 101))]) dX12_sortOf_82 ll_X12_187 sh_401 (by decide) rfl (ctX12_isWord  rfl) rfl (Nat.le_of_ble_eq_true rfl) (Nat.le_of_ble_eq_true rfl) (go_Z_up w _) rfl rfl ?_
        refine go_if_eq 90 dX12_sortOf_85 (by decide) (fun hc => ?_) (fun hc => ?_)
        · have h := go_ifp hc h
          refine go_aload_n dX12_sortOf_90 0 rfl ?_
          refine go_bipush (v := 102) dX12_sortOf_91 (by decide) ?_
          refine go_bipush (v := 97) dX12_sortOf_93 (by decide) ?_
          refine go_bipush (v := 109) dX12_sortOf_95 (by decide) ?_
          refine go_bipush (v := 105) dX12_sortOf_97 (by decide) ?_
          refine go_bipush (v := 108) dX12_sortOf_99 (by decide) ?_
          refine go_bipush (v := 121) dX12_sortOf_101 (by decide) ?_
          refine pp_callS (as := [.int 102, .int 97, .int 109, .int 105, .int 108, .int 121]) (st := [.ref 401]) (rv := (some (.long (fX12_w6 102 97 109 105 108 121)))) (μ1 := μ) (st1 := [.long (fX12_w6 102 97 109 105 108 121), .ref 401]) dX12_sortOf_103 ll_X12_145 (ctX12_w6  rfl) rfl (Nat.le_of_ble_eq_true rfl) (Nat.le_of_ble_eq_true rfl) (go_Z_up w _) rfl rfl ?_
          refine pp_callV (as := [.long (fX12_w6 102 97 109 105 108 121)]) (st := []) (rv := (some (.int (fX12_isWord μ (fX12_w6 102 97 109 105 108 121))))) (μ1 := μ) (st1 := [.int (fX12_isWord μ (fX12_w6 102 97 109 105 108 121))]) dX12_sortOf_106 ll_X12_187 sh_401 (by decide) rfl (ctX12_isWord  rfl) rfl (Nat.le_of_ble_eq_true rfl) (Nat.le_of_ble_eq_true rfl) (go_Z_up w _) rfl rfl ?_
          refine go_if_eq 114 dX12_sortOf_109 (by decide) (fun hc => ?_) (fun hc => ?_)
          · have h := go_ifp hc h
            refine go_aload_n dX12_sortOf_114 0 rfl ?_
            refine go_bipush (v := 99) dX12_sortOf_115 (by decide) ?_
            refine go_bipush (v := 97) dX12_sortOf_117 (by decide) ?_
            refine go_bipush (v := 108) dX12_sortOf_119 (by decide) ?_
            refine go_bipush (v := 108) dX12_sortOf_121 (by decide) ?_
            refine pp_callS (as := [.int 99, .int 97, .int 108, .int 108]) (st := [.ref 401]) (rv := (some (.long (fX12_w4 99 97 108 108)))) (μ1 := μ) (st1 := [.long (fX12_w4 99 97 108 108), .ref 401]) dX12_sortOf_123 ll_X12_131 (ctX12_w4  rfl) rfl (Nat.le_of_ble_eq_true rfl) (Nat.le_of_ble_eq_true rfl) (go_Z_up w _) rfl rfl ?_
            refine pp_callV (as := [.long (fX12_w4 99 97 108 108)]) (st := []) (rv := (some (.int (fX12_isWord μ (fX12_w4 99 97 108 108))))) (μ1 := μ) (st1 := [.int (fX12_isWord μ (fX12_w4 99 97 108 108))]) dX12_sortOf_126 ll_X12_187 sh_401 (by decide) rfl (ctX12_isWord  rfl) rfl (Nat.le_of_ble_eq_true rfl) (Nat.le_of_ble_eq_true rfl) (go_Z_up w _) rfl rfl ?_
            refine go_if_eq 134 dX12_sortOf_129 (by decide) (fun hc => ?_) (fun hc => ?_)
            · have h := go_ifp hc h
              refine go_aload_n dX12_sortOf_134 0 rfl ?_
              refine go_bipush (v := 108) dX12_sortOf_135 (by decide) ?_
              refine go_bipush (v := 97) dX12_sortOf_137 (by decide) ?_
              refine go_bipush (v := 121) dX12_sortOf_139 (by decide) ?_
              refine pp_callS (as := [.int 108, .int 97, .int 121]) (st := [.ref 401]) (rv := (some (.long (fX12_w3 108 97 121)))) (μ1 := μ) (st1 := [.long (fX12_w3 108 97 121), .ref 401]) dX12_sortOf_141 ll_X12_127 (ctX12_w3  rfl) rfl (Nat.le_of_ble_eq_true rfl) (Nat.le_of_ble_eq_true rfl) (go_Z_up w _) rfl rfl ?_
              refine pp_callV (as := [.long (fX12_w3 108 97 121)]) (st := []) (rv := (some (.int (fX12_isWord μ (fX12_w3 108 97 121))))) (μ1 := μ) (st1 := [.int (fX12_isWord μ (fX12_w3 108 97 121))]) dX12_sortOf_144 ll_X12_187 sh_401 (by decide) rfl (ctX12_isWord  rfl) rfl (Nat.le_of_ble_eq_true rfl) (Nat.le_of_ble_eq_true rfl) (go_Z_up w _) rfl rfl ?_
              refine go_if_eq 153 dX12_sortOf_147 (by decide) (fun hc => ?_) (fun hc => ?_)
              · have h := go_ifp hc h
                refine go_aload_n dX12_sortOf_153 0 rfl ?_
                refine go_bipush (v := 116) dX12_sortOf_154 (by decide) ?_
                refine go_bipush (v := 97) dX12_sortOf_156 (by decide) ?_
                refine go_bipush (v := 107) dX12_sortOf_158 (by decide) ?_
                refine go_bipush (v := 101) dX12_sortOf_160 (by decide) ?_
                refine pp_callS (as := [.int 116, .int 97, .int 107, .int 101]) (st := [.ref 401]) (rv := (some (.long (fX12_w4 116 97 107 101)))) (μ1 := μ) (st1 := [.long (fX12_w4 116 97 107 101), .ref 401]) dX12_sortOf_162 ll_X12_131 (ctX12_w4  rfl) rfl (Nat.le_of_ble_eq_true rfl) (Nat.le_of_ble_eq_true rfl) (go_Z_up w _) rfl rfl ?_
                refine pp_callV (as := [.long (fX12_w4 116 97 107 101)]) (st := []) (rv := (some (.int (fX12_isWord μ (fX12_w4 116 97 107 101))))) (μ1 := μ) (st1 := [.int (fX12_isWord μ (fX12_w4 116 97 107 101))]) dX12_sortOf_165 ll_X12_187 sh_401 (by decide) rfl (ctX12_isWord  rfl) rfl (Nat.le_of_ble_eq_true rfl) (Nat.le_of_ble_eq_true rfl) (go_Z_up w _) rfl rfl ?_
                refine go_if_eq 174 dX12_sortOf_168 (by decide) (fun hc => ?_) (fun hc => ?_)
                · have h := go_ifp hc h
                  refine go_aload_n dX12_sortOf_174 0 rfl ?_
                  refine go_bipush (v := 115) dX12_sortOf_175 (by decide) ?_
                  refine go_bipush (v := 116) dX12_sortOf_177 (by decide) ?_
                  refine go_bipush (v := 97) dX12_sortOf_179 (by decide) ?_
                  refine go_bipush (v := 110) dX12_sortOf_181 (by decide) ?_
                  refine go_bipush (v := 100) dX12_sortOf_183 (by decide) ?_
                  refine pp_callS (as := [.int 115, .int 116, .int 97, .int 110, .int 100]) (st := [.ref 401]) (rv := (some (.long (fX12_w5 115 116 97 110 100)))) (μ1 := μ) (st1 := [.long (fX12_w5 115 116 97 110 100), .ref 401]) dX12_sortOf_185 ll_X12_135 (ctX12_w5  rfl) rfl (Nat.le_of_ble_eq_true rfl) (Nat.le_of_ble_eq_true rfl) (go_Z_up w _) rfl rfl ?_
                  refine pp_callV (as := [.long (fX12_w5 115 116 97 110 100)]) (st := []) (rv := (some (.int (fX12_isWord μ (fX12_w5 115 116 97 110 100))))) (μ1 := μ) (st1 := [.int (fX12_isWord μ (fX12_w5 115 116 97 110 100))]) dX12_sortOf_188 ll_X12_187 sh_401 (by decide) rfl (ctX12_isWord  rfl) rfl (Nat.le_of_ble_eq_true rfl) (Nat.le_of_ble_eq_true rfl) (go_Z_up w _) rfl rfl ?_
                  refine go_if_eq 197 dX12_sortOf_191 (by decide) (fun hc => ?_) (fun hc => ?_)
                  · have h := go_ifp hc h
                    refine go_aload_n dX12_sortOf_197 0 rfl ?_
                    refine go_bipush (v := 115) dX12_sortOf_198 (by decide) ?_
                    refine go_bipush (v := 105) dX12_sortOf_200 (by decide) ?_
                    refine go_bipush (v := 110) dX12_sortOf_202 (by decide) ?_
                    refine go_bipush (v := 107) dX12_sortOf_204 (by decide) ?_
                    refine pp_callS (as := [.int 115, .int 105, .int 110, .int 107]) (st := [.ref 401]) (rv := (some (.long (fX12_w4 115 105 110 107)))) (μ1 := μ) (st1 := [.long (fX12_w4 115 105 110 107), .ref 401]) dX12_sortOf_206 ll_X12_131 (ctX12_w4  rfl) rfl (Nat.le_of_ble_eq_true rfl) (Nat.le_of_ble_eq_true rfl) (go_Z_up w _) rfl rfl ?_
                    refine pp_callV (as := [.long (fX12_w4 115 105 110 107)]) (st := []) (rv := (some (.int (fX12_isWord μ (fX12_w4 115 105 110 107))))) (μ1 := μ) (st1 := [.int (fX12_isWord μ (fX12_w4 115 105 110 107))]) dX12_sortOf_209 ll_X12_187 sh_401 (by decide) rfl (ctX12_isWord  rfl) rfl (Nat.le_of_ble_eq_true rfl) (Nat.le_of_ble_eq_true rfl) (go_Z_up w _) rfl rfl ?_
                    refine go_if_eq 220 dX12_sortOf_212 (by decide) (fun hc => ?_) (fun hc => ?_)
                    · have h := go_ifp hc h
                      refine go_aload_n dX12_sortOf_220 0 rfl ?_
                      refine go_bipush (v := 104) dX12_sortOf_221 (by decide) ?_
                      refine go_bipush (v := 111) dX12_sortOf_223 (by decide) ?_
                      refine go_bipush (v := 117) dX12_sortOf_225 (by decide) ?_
                      refine go_bipush (v := 114) dX12_sortOf_227 (by decide) ?_
                      refine pp_callS (as := [.int 104, .int 111, .int 117, .int 114]) (st := [.ref 401]) (rv := (some (.long (fX12_w4 104 111 117 114)))) (μ1 := μ) (st1 := [.long (fX12_w4 104 111 117 114), .ref 401]) dX12_sortOf_229 ll_X12_131 (ctX12_w4  rfl) rfl (Nat.le_of_ble_eq_true rfl) (Nat.le_of_ble_eq_true rfl) (go_Z_up w _) rfl rfl ?_
                      refine pp_callV (as := [.long (fX12_w4 104 111 117 114)]) (st := []) (rv := (some (.int (fX12_isWord μ (fX12_w4 104 111 117 114))))) (μ1 := μ) (st1 := [.int (fX12_isWord μ (fX12_w4 104 111 117 114))]) dX12_sortOf_232 ll_X12_187 sh_401 (by decide) rfl (ctX12_isWord  rfl) rfl (Nat.le_of_ble_eq_true rfl) (Nat.le_of_ble_eq_true rfl) (go_Z_up w _) rfl rfl ?_
                      refine go_if_eq 243 dX12_sortOf_235 (by decide) (fun hc => ?_) (fun hc => ?_)
                      · have h := go_ifp hc h
                        refine go_iconst (v := (-1)) dX12_sortOf_243 (by decide) ?_
                        subst h
                        exact go_iret dX12_sortOf_244 rfl hK
                      · have h := go_ifn hc h
                        refine go_bipush (v := 10) dX12_sortOf_238 (by decide) ?_
                        refine go_goto 244 dX12_sortOf_240 (by decide) ?_
                        subst h
                        exact go_iret dX12_sortOf_244 rfl hK
                    · have h := go_ifn hc h
                      refine go_bipush (v := 9) dX12_sortOf_215 (by decide) ?_
                      refine go_goto 244 dX12_sortOf_217 (by decide) ?_
                      subst h
                      exact go_iret dX12_sortOf_244 rfl hK
                  · have h := go_ifn hc h
                    refine go_bipush (v := 8) dX12_sortOf_194 (by decide) ?_
                    subst h
                    exact go_iret dX12_sortOf_196 rfl hK
                · have h := go_ifn hc h
                  refine go_bipush (v := 7) dX12_sortOf_171 (by decide) ?_
                  subst h
                  exact go_iret dX12_sortOf_173 rfl hK
              · have h := go_ifn hc h
                refine go_bipush (v := 6) dX12_sortOf_150 (by decide) ?_
                subst h
                exact go_iret dX12_sortOf_152 rfl hK
            · have h := go_ifn hc h
              refine go_iconst (v := 5) dX12_sortOf_132 (by decide) ?_
              subst h
              exact go_iret dX12_sortOf_133 rfl hK
          · have h := go_ifn hc h
            refine go_iconst (v := 4) dX12_sortOf_112 (by decide) ?_
            subst h
            exact go_iret dX12_sortOf_113 rfl hK
        · have h := go_ifn hc h
          refine go_iconst (v := 3) dX12_sortOf_88 (by decide) ?_
          subst h
          exact go_iret dX12_sortOf_89 rfl hK
      · have h := go_ifn hc h
        refine go_iconst (v := 2) dX12_sortOf_68 (by decide) ?_
        subst h
        exact go_iret dX12_sortOf_69 rfl hK
    · have h := go_ifn hc h
      refine go_iconst (v := 1) dX12_sortOf_44 (by decide) ?_
      subst h
      exact go_iret dX12_sortOf_45 rfl hK
  · have h := go_ifn hc h
    refine go_iconst (v := 0) dX12_sortOf_20 (by decide) ?_
    subst h
    exact go_iret dX12_sortOf_21 rfl hK
theorem ctX12_sortOf {w : go_Wd} {tx : Nat} {μ : PM}  {r : Int32}  (h : fX12_sortOf μ = r) : Ct w 5 0 0 mtX12_sortOf [.ref 401] (go_mk tx μ) (fun r' M' => r' = some (.int r) ∧ M' = go_mk tx μ) :=
  go_entry rfl (by decide) (Nat.le_of_ble_eq_true rfl) (cmX12_sortOf w tx _ μ  _ h ⟨rfl, rfl⟩)
def jjX12_clause_65 (μ : PM)  (v1 : Int32) (v2 : Int32)  : Option (Int32 × PM) :=
  go_let (pm_wi μ 401 14 v1) fun μ4 => (fX12_nextToken μ4).bind fun q5 => go_let ((((q5.1 401 12) + 1) + (3 * v2))) fun x6 => go_chk x6 2724 <| go_let (pm_wi q5 404 x6.toNatClampNeg v1) fun μ7 => (fX12_body μ7 v1 x6).bind fun q9 => (if q9.1 = 0 then go_chk (q9.2.1 401 12) 2724 <| go_chk (q9.2.1 401 12) 2724 <| go_let (pm_wi q9.2 404 ((q9.2.1 401 12) : Int32).toNatClampNeg ((q9.2.1 404 ((q9.2.1 401 12) : Int32).toNatClampNeg) + 1)) fun μ11 => (if (μ11.1 401 9) = 59 then (fX12_nextToken μ11).bind fun q13 => some ((0, q13)) else some ((1, μ11))) else some ((q9.1, q9.2)))
def jjX12_clause_29 (μ : PM)  (v1 : Int32)  : Option (Int32 × PM) :=
  go_chk (μ.1 401 12) 2724 <| go_let ((μ.1 404 ((μ.1 401 12) : Int32).toNatClampNeg)) fun x3 => (if x3 = 24 then some ((6, μ)) else (if 2 < v1 then jjX12_clause_65 μ v1 x3 else go_let (pm_wi μ 401 19 ((μ.1 401 19) ||| ((1 : Int32) <<< (v1 &&& 31)))) fun μ14 => jjX12_clause_65 μ14 v1 x3))
def fX12_clause (μ : PM)  : Option (Int32 × PM) :=
  go_let ((fX12_sortOf μ)) fun x1 => (if 0 ≤ x1 then (if 2 < x1 then jjX12_clause_29 μ x1 else (if (fX12_has (μ.1 401 19) x1) = 0 then jjX12_clause_29 μ x1 else some ((4, μ)))) else some ((1, μ)))
set_option maxRecDepth 20000 in
set_option maxHeartbeats 4000000 in
theorem jqX12_clause_65 (w : go_Wd) (tx : Nat) (Q : Option Value → go_M → Prop) (μ : PM)  (v1 : Int32) (v2 : Int32)    (out : Int32 × PM) (h : jjX12_clause_65 μ v1 v2  = some out) (hK : Q (some (.int out.1)) (go_mk tx out.2)) : Go w 10 0 0 mtX12_clause 65 [(0, .ref 401), (1, .int v1), (2, .int v2)] [] (go_mk tx μ) (go_Z w Q) := by
  unfold jjX12_clause_65 at h
  refine go_aload_n dX12_clause_65 0 rfl ?_
  refine go_iload_n dX12_clause_66 1 rfl ?_
  obtain ⟨μ4, hμ4, h⟩ := go_let_e h
  refine pp_putI dX12_clause_67 ff_X12_149 (Or.inl rfl) sh_401 hμ4 ?_
  refine go_aload_n dX12_clause_70 0 rfl ?_
  obtain ⟨q5, hq5, h⟩ := go_bind h
  refine pp_callV (as := []) (st := []) (rv := none) (μ1 := q5) (st1 := []) dX12_clause_71 ll_X12_172 sh_401 (by decide) rfl (ctX12_nextToken  hq5) rfl (Nat.le_of_ble_eq_true rfl) (Nat.le_of_ble_eq_true rfl) (go_Z_up w _) rfl rfl ?_
  refine go_aload_n dX12_clause_74 0 rfl ?_
  refine pp_getI dX12_clause_75 ff_X12_139 (by decide) sh_401 ?_
  refine go_iconst (v := 1) dX12_clause_78 (by decide) ?_
  refine go_iadd dX12_clause_79 ?_
  refine go_iconst (v := 3) dX12_clause_80 (by decide) ?_
  refine go_iload_n dX12_clause_81 2 rfl ?_
  refine go_imul dX12_clause_82 ?_
  refine go_iadd dX12_clause_83 ?_
  obtain ⟨x6, hx6, h⟩ := go_let_e h
  refine go_top hx6 ?_
  refine go_istore_n dX12_clause_84 (by decide) rfl ?_
  show Go w 10 0 0 mtX12_clause 85 [(3, .int x6), (0, .ref 401), (1, .int v1), (2, .int v2)] [] (go_mk tx q5) (go_Z w Q)
  refine go_aload_n dX12_clause_85 1 rfl ?_
  refine pp_getR dX12_clause_86 ff_X12_16 (Or.inr ⟨_, rfl⟩) sh_401 rf_401_2 ?_
  refine go_iload_n dX12_clause_89 0 rfl ?_
  refine go_iload_n dX12_clause_90 2 rfl ?_
  obtain ⟨hz8, h⟩ := go_chk_e h
  obtain ⟨μ7, hμ7, h⟩ := go_let_e h
  refine pp_ist dX12_clause_91 sh_404 hz8 hμ7 ?_
  refine go_aload_n dX12_clause_92 1 rfl ?_
  refine go_iload_n dX12_clause_93 2 rfl ?_
  refine go_iload_n dX12_clause_94 0 rfl ?_
  obtain ⟨q9, hq9, h⟩ := go_bind h
  refine pp_callV (as := [.int v1, .int x6]) (st := []) (rv := (some (.int q9.1))) (μ1 := q9.2) (st1 := [.int q9.1]) dX12_clause_95 ll_X12_243 sh_401 (by decide) rfl (ctX12_body  hq9) rfl (Nat.le_of_ble_eq_true rfl) (Nat.le_of_ble_eq_true rfl) (go_Z_up w _) rfl rfl ?_
  refine go_istore dX12_clause_98 (by decide) rfl ?_
  show Go w 10 0 0 mtX12_clause 100 [(4, .int q9.1), (3, .int x6), (0, .ref 401), (1, .int v1), (2, .int v2)] [] (go_mk tx q9.2) (go_Z w Q)
  refine go_iload dX12_clause_100 0 rfl ?_
  refine go_if_eq 108 dX12_clause_102 (by decide) (fun hc => ?_) (fun hc => ?_)
  · have h := go_ifp hc h
    refine go_aload_n dX12_clause_108 2 rfl ?_
    refine pp_getR dX12_clause_109 ff_X12_16 (Or.inr ⟨_, rfl⟩) sh_401 rf_401_2 ?_
    refine go_aload_n dX12_clause_112 2 rfl ?_
    refine pp_getI dX12_clause_113 ff_X12_139 (by decide) sh_401 ?_
    refine go_dup2 dX12_clause_116 rfl rfl ?_
    obtain ⟨hz10, h⟩ := go_chk_e h
    refine pp_ild dX12_clause_117 sh_404 hz10 ?_
    refine go_iconst (v := 1) dX12_clause_118 (by decide) ?_
    refine go_iadd dX12_clause_119 ?_
    obtain ⟨hz12, h⟩ := go_chk_e h
    obtain ⟨μ11, hμ11, h⟩ := go_let_e h
    refine pp_ist dX12_clause_120 sh_404 hz12 hμ11 ?_
    refine go_aload_n dX12_clause_121 2 rfl ?_
    refine pp_getI dX12_clause_122 ff_X12_102 (by decide) sh_401 ?_
    refine go_bipush (v := 59) dX12_clause_125 (by decide) ?_
    refine go_icmp_eq 132 dX12_clause_127 (by decide) (fun hc => ?_) (fun hc => ?_)
    · have h := go_ifp hc h
      refine go_aload_n dX12_clause_132 2 rfl ?_
      obtain ⟨q13, hq13, h⟩ := go_bind h
      refine pp_callV (as := []) (st := []) (rv := none) (μ1 := q13) (st1 := []) dX12_clause_133 ll_X12_172 sh_401 (by decide) rfl (ctX12_nextToken  hq13) rfl (Nat.le_of_ble_eq_true rfl) (Nat.le_of_ble_eq_true rfl) (go_Z_up w _) rfl rfl ?_
      refine go_iconst (v := 0) dX12_clause_136 (by decide) ?_
      cases h
      exact go_iret dX12_clause_137 rfl hK
    · have h := go_ifn hc h
      refine go_iconst (v := 1) dX12_clause_130 (by decide) ?_
      cases h
      exact go_iret dX12_clause_131 rfl hK
  · have h := go_ifn hc h
    refine go_iload dX12_clause_105 0 rfl ?_
    cases h
    exact go_iret dX12_clause_107 rfl hK
set_option maxRecDepth 20000 in
set_option maxHeartbeats 4000000 in
theorem jqX12_clause_29 (w : go_Wd) (tx : Nat) (Q : Option Value → go_M → Prop) (μ : PM)  (v1 : Int32)    (out : Int32 × PM) (h : jjX12_clause_29 μ v1  = some out) (hK : Q (some (.int out.1)) (go_mk tx out.2)) : Go w 10 0 0 mtX12_clause 29 [(0, .ref 401), (1, .int v1)] [] (go_mk tx μ) (go_Z w Q) := by
  unfold jjX12_clause_29 at h
  refine go_aload_n dX12_clause_29 0 rfl ?_
  refine pp_getR dX12_clause_30 ff_X12_16 (Or.inr ⟨_, rfl⟩) sh_401 rf_401_2 ?_
  refine go_aload_n dX12_clause_33 0 rfl ?_
  refine pp_getI dX12_clause_34 ff_X12_139 (by decide) sh_401 ?_
  obtain ⟨hz2, h⟩ := go_chk_e h
  refine pp_ild dX12_clause_37 sh_404 hz2 ?_
  obtain ⟨x3, hx3, h⟩ := go_let_e h
  refine go_top hx3 ?_
  refine go_istore_n dX12_clause_38 (by decide) rfl ?_
  show Go w 10 0 0 mtX12_clause 39 [(2, .int x3), (0, .ref 401), (1, .int v1)] [] (go_mk tx μ) (go_Z w Q)
  refine go_iload_n dX12_clause_39 0 rfl ?_
  refine go_bipush (v := 24) dX12_clause_40 (by decide) ?_
  refine go_icmp_ne 48 dX12_clause_42 (by decide) (fun hc => ?_) (fun hc => ?_)
  · have h := go_ifn hc h
    refine go_iload_n dX12_clause_48 2 rfl ?_
    refine go_iconst (v := 2) dX12_clause_49 (by decide) ?_
    refine go_icmp_gt 65 dX12_clause_50 (by decide) (fun hc => ?_) (fun hc => ?_)
    · have h := go_ifp hc h
      refine go_pick [1, 2, 0] rfl ?_
      exact jqX12_clause_65 w tx Q μ  v1 x3    _ h hK
    · have h := go_ifn hc h
      refine go_aload_n dX12_clause_53 1 rfl ?_
      refine go_dup dX12_clause_54 rfl ?_
      refine pp_getI dX12_clause_55 ff_X12_236 (by decide) sh_401 ?_
      refine go_iconst (v := 1) dX12_clause_58 (by decide) ?_
      refine go_iload_n dX12_clause_59 2 rfl ?_
      refine go_ishl dX12_clause_60 ?_
      refine go_ior dX12_clause_61 ?_
      obtain ⟨μ14, hμ14, h⟩ := go_let_e h
      refine pp_putI dX12_clause_62 ff_X12_236 (Or.inl rfl) sh_401 hμ14 ?_
      refine go_pick [1, 2, 0] rfl ?_
      exact jqX12_clause_65 w tx Q μ14  v1 x3    _ h hK
  · have h := go_ifp hc h
    refine go_bipush (v := 6) dX12_clause_45 (by decide) ?_
    cases h
    exact go_iret dX12_clause_47 rfl hK
set_option maxRecDepth 20000 in
set_option maxHeartbeats 4000000 in
theorem cmX12_clause (w : go_Wd) (tx : Nat) (Q : Option Value → go_M → Prop) (μ : PM)  (out : Int32 × PM) (h : fX12_clause μ = some out) (hK : Q (some (.int out.1)) (go_mk tx out.2)) : Go w 10 0 0 mtX12_clause 0 [(0, .ref 401)] [] (go_mk tx μ) (go_Z w Q) := by
  unfold fX12_clause at h
  refine go_aload_n dX12_clause_0 0 rfl ?_
  refine pp_callV (as := []) (st := []) (rv := (some (.int (fX12_sortOf μ)))) (μ1 := μ) (st1 := [.int (fX12_sortOf μ)]) dX12_clause_1 ll_X12_233 sh_401 (by decide) rfl (ctX12_sortOf  rfl) rfl (Nat.le_of_ble_eq_true rfl) (Nat.le_of_ble_eq_true rfl) (go_Z_up w _) rfl rfl ?_
  obtain ⟨x1, hx1, h⟩ := go_let_e h
  refine go_top hx1 ?_
  refine go_istore_n dX12_clause_4 (by decide) rfl ?_
  show Go w 10 0 0 mtX12_clause 5 [(1, .int x1), (0, .ref 401)] [] (go_mk tx μ) (go_Z w Q)
  refine go_iload_n dX12_clause_5 0 rfl ?_
  refine go_if_ge 11 dX12_clause_6 (by decide) (fun hc => ?_) (fun hc => ?_)
  · have h := go_ifp hc h
    refine go_iload_n dX12_clause_11 0 rfl ?_
    refine go_iconst (v := 2) dX12_clause_12 (by decide) ?_
    refine go_icmp_gt 29 dX12_clause_13 (by decide) (fun hc => ?_) (fun hc => ?_)
    · have h := go_ifp hc h
      refine go_pick [1, 0] rfl ?_
      exact jqX12_clause_29 w tx Q μ  x1    _ h hK
    · have h := go_ifn hc h
      refine go_aload_n dX12_clause_16 1 rfl ?_
      refine pp_getI dX12_clause_17 ff_X12_236 (by decide) sh_401 ?_
      refine go_iload_n dX12_clause_20 0 rfl ?_
      refine pp_callS (as := [.int (μ.1 401 19), .int x1]) (st := []) (rv := (some (.int (fX12_has (μ.1 401 19) x1)))) (μ1 := μ) (st1 := [.int (fX12_has (μ.1 401 19) x1)]) dX12_clause_21 ll_X12_239 (ctX12_has  rfl) rfl (Nat.le_of_ble_eq_true rfl) (Nat.le_of_ble_eq_true rfl) (go_Z_up w _) rfl rfl ?_
      refine go_if_eq 29 dX12_clause_24 (by decide) (fun hc => ?_) (fun hc => ?_)
      · have h := go_ifp hc h
        refine go_pick [1, 0] rfl ?_
        exact jqX12_clause_29 w tx Q μ  x1    _ h hK
      · have h := go_ifn hc h
        refine go_iconst (v := 4) dX12_clause_27 (by decide) ?_
        cases h
        exact go_iret dX12_clause_28 rfl hK
  · have h := go_ifn hc h
    refine go_iconst (v := 1) dX12_clause_9 (by decide) ?_
    cases h
    exact go_iret dX12_clause_10 rfl hK
theorem ctX12_clause {w : go_Wd} {tx : Nat} {μ : PM}  {r : Int32} {μ1 : PM}  (h : fX12_clause μ = some (r, μ1)) : Ct w 10 0 0 mtX12_clause [.ref 401] (go_mk tx μ) (fun r' M' => r' = some (.int r) ∧ M' = go_mk tx μ1) :=
  go_entry rfl (by decide) (Nat.le_of_ble_eq_true rfl) (cmX12_clause w tx _ μ  _ h ⟨rfl, rfl⟩)
def lbX12_readText_43    (μ : PM) : Option ((PM) ⊕ (Int32 × PM)) :=
  (if (μ.1 401 9) = 0 then some (.inr ((0, μ))) else (fX12_clause μ).bind fun q8 => (if q8.1 = 0 then some (.inl q8.2) else some (.inr ((q8.1, q8.2)))))
def fX12_readText (μ : PM)  : Option (Int32 × PM) :=
  go_let (pm_wi μ 401 12 (681 * (μ.1 402 2))) fun μ1 => go_chk (μ1.1 401 12) 2724 <| go_let (pm_wi μ1 404 ((μ1.1 401 12) : Int32).toNatClampNeg 0) fun μ2 => go_let (pm_wi μ2 401 13 0) fun μ4 => go_let (pm_wi μ4 401 19 0) fun μ5 => go_let (pm_wi μ5 401 7 0) fun μ6 => (fX12_nextToken μ6).bind fun q7 => ((lp (fun s => lbX12_readText_43 s) go_fuel q7).bind fun ρ9 => some ρ9)
def ggX12_readText_43 (w : go_Wd) (tx : Nat) (Q : Option Value → go_M → Prop)   (s : PM) : Prop := Go w 11 0 0 mtX12_readText 43 [(0, .ref 401)] [] (go_mk tx s) (go_Z w Q)
def eeX12_readText_43 (w : go_Wd) (tx : Nat) (Q : Option Value → go_M → Prop)   (y : Int32 × PM) : Prop := Q (some (.int y.1)) (go_mk tx y.2)
set_option maxRecDepth 20000 in
set_option maxHeartbeats 4000000 in
theorem lqX12_readText_43 (w : go_Wd) (tx : Nat) (Q : Option Value → go_M → Prop)     (μ : PM) (out : (PM) ⊕ (Int32 × PM)) (h : lbX12_readText_43  μ = some out) (hK : go_out (ggX12_readText_43 w tx Q  ) (eeX12_readText_43 w tx Q  ) out) : ggX12_readText_43 w tx Q   μ := by
  unfold lbX12_readText_43 at h
  show Go w 11 0 0 mtX12_readText 43 [(0, .ref 401)] [] (go_mk tx μ) (go_Z w Q)
  refine go_aload_n dX12_readText_43 0 rfl ?_
  refine pp_getI dX12_readText_44 ff_X12_102 (by decide) sh_401 ?_
  refine go_if_eq 64 dX12_readText_47 (by decide) (fun hc => ?_) (fun hc => ?_)
  · have h := go_ifp hc h
    refine go_iconst (v := 0) dX12_readText_64 (by decide) ?_
    cases h
    exact go_iret dX12_readText_65 rfl hK
  · have h := go_ifn hc h
    refine go_aload_n dX12_readText_50 0 rfl ?_
    obtain ⟨q8, hq8, h⟩ := go_bind h
    refine pp_callV (as := []) (st := []) (rv := (some (.int q8.1))) (μ1 := q8.2) (st1 := [.int q8.1]) dX12_readText_51 ll_X12_247 sh_401 (by decide) rfl (ctX12_clause  hq8) rfl (Nat.le_of_ble_eq_true rfl) (Nat.le_of_ble_eq_true rfl) (go_Z_up w _) rfl rfl ?_
    refine go_istore_n dX12_readText_54 (by decide) rfl ?_
    show Go w 11 0 0 mtX12_readText 55 [(1, .int q8.1), (0, .ref 401)] [] (go_mk tx q8.2) (go_Z w Q)
    refine go_iload_n dX12_readText_55 0 rfl ?_
    refine go_if_eq 61 dX12_readText_56 (by decide) (fun hc => ?_) (fun hc => ?_)
    · have h := go_ifp hc h
      refine go_goto 43 dX12_readText_61 (by decide) ?_
      cases h
      have hK : Go w 11 0 0 mtX12_readText 43 [(0, .ref 401)] [] (go_mk tx q8.2) (go_Z w Q) := hK
      exact go_pick [1] rfl hK
    · have h := go_ifn hc h
      refine go_iload_n dX12_readText_59 0 rfl ?_
      cases h
      exact go_iret dX12_readText_60 rfl hK
set_option maxRecDepth 20000 in
set_option maxHeartbeats 4000000 in
theorem cmX12_readText (w : go_Wd) (tx : Nat) (Q : Option Value → go_M → Prop) (μ : PM)  (out : Int32 × PM) (h : fX12_readText μ = some out) (hK : Q (some (.int out.1)) (go_mk tx out.2)) : Go w 11 0 0 mtX12_readText 0 [(0, .ref 401)] [] (go_mk tx μ) (go_Z w Q) := by
  unfold fX12_readText at h
  refine go_aload_n dX12_readText_0 0 rfl ?_
  refine go_sipush (v := 681) dX12_readText_1 (by decide) ?_
  refine go_aload_n dX12_readText_4 0 rfl ?_
  refine pp_getR dX12_readText_5 ff_X12_7 (Or.inr ⟨_, rfl⟩) sh_401 rf_401_0 ?_
  refine go_iconst (v := 2) dX12_readText_8 (by decide) ?_
  refine pp_ildc (q := 2) dX12_readText_9 sh_402 (by decide) ?_
  refine go_imul dX12_readText_10 ?_
  obtain ⟨μ1, hμ1, h⟩ := go_let_e h
  refine pp_putI dX12_readText_11 ff_X12_139 (Or.inl rfl) sh_401 hμ1 ?_
  refine go_aload_n dX12_readText_14 0 rfl ?_
  refine pp_getR dX12_readText_15 ff_X12_16 (Or.inr ⟨_, rfl⟩) sh_401 rf_401_2 ?_
  refine go_aload_n dX12_readText_18 0 rfl ?_
  refine pp_getI dX12_readText_19 ff_X12_139 (by decide) sh_401 ?_
  refine go_iconst (v := 0) dX12_readText_22 (by decide) ?_
  obtain ⟨hz3, h⟩ := go_chk_e h
  obtain ⟨μ2, hμ2, h⟩ := go_let_e h
  refine pp_ist dX12_readText_23 sh_404 hz3 hμ2 ?_
  refine go_aload_n dX12_readText_24 0 rfl ?_
  refine go_iconst (v := 0) dX12_readText_25 (by decide) ?_
  obtain ⟨μ4, hμ4, h⟩ := go_let_e h
  refine pp_putI dX12_readText_26 ff_X12_142 (Or.inl rfl) sh_401 hμ4 ?_
  refine go_aload_n dX12_readText_29 0 rfl ?_
  refine go_iconst (v := 0) dX12_readText_30 (by decide) ?_
  obtain ⟨μ5, hμ5, h⟩ := go_let_e h
  refine pp_putI dX12_readText_31 ff_X12_236 (Or.inl rfl) sh_401 hμ5 ?_
  refine go_aload_n dX12_readText_34 0 rfl ?_
  refine go_iconst (v := 0) dX12_readText_35 (by decide) ?_
  obtain ⟨μ6, hμ6, h⟩ := go_let_e h
  refine pp_putI dX12_readText_36 ff_X12_93 (Or.inl rfl) sh_401 hμ6 ?_
  refine go_aload_n dX12_readText_39 0 rfl ?_
  obtain ⟨q7, hq7, h⟩ := go_bind h
  refine pp_callV (as := []) (st := []) (rv := none) (μ1 := q7) (st1 := []) dX12_readText_40 ll_X12_172 sh_401 (by decide) rfl (ctX12_nextToken  hq7) rfl (Nat.le_of_ble_eq_true rfl) (Nat.le_of_ble_eq_true rfl) (go_Z_up w _) rfl rfl ?_
  obtain ⟨ρ9, hρ9, h⟩ := go_bind h
  refine go_pick [0] rfl ?_
  refine go_lp (G := ggX12_readText_43 w tx Q  ) (E := eeX12_readText_43 w tx Q  ) (fun s out h hK => lqX12_readText_43 w tx Q    s out h hK) go_fuel q7 ρ9 hρ9 ?_
  cases h
  exact hK
theorem ctX12_readText {w : go_Wd} {tx : Nat} {μ : PM}  {r : Int32} {μ1 : PM}  (h : fX12_readText μ = some (r, μ1)) : Ct w 11 0 0 mtX12_readText [.ref 401] (go_mk tx μ) (fun r' M' => r' = some (.int r) ∧ M' = go_mk tx μ1) :=
  go_entry rfl (by decide) (Nat.le_of_ble_eq_true rfl) (cmX12_readText w tx _ μ  _ h ⟨rfl, rfl⟩)
def jjX12_text_36 (μ : PM)   (s1 : Int32) : Option (Int32 × PM) :=
  go_let (pm_wi μ 401 6 s1) fun μ3 => go_let (pm_wi μ3 401 4 0) fun μ4 => (if (μ4.1 401 5) = 0 then go_let (pm_wi μ4 402 2 ((μ4.1 402 2) + 1)) fun μ5 => some ((((μ5.1 402 2) - 1), μ5)) else some (((-1), μ4)))
def fX12_text (μ : PM)  : Option (Int32 × PM) :=
  (if (μ.1 402 2) = 4 then some (((-1), μ)) else (fX12_readText μ).bind fun q1 => go_let (pm_wi q1.2 401 5 q1.1) fun μ2 => (if (μ2.1 401 5) = 0 then jjX12_text_36 μ2 ((-1)) else jjX12_text_36 μ2 ((μ2.1 401 8))))
set_option maxRecDepth 20000 in
set_option maxHeartbeats 4000000 in
theorem jqX12_text_36 (w : go_Wd) (tx : Nat) (Q : Option Value → go_M → Prop) (μ : PM)    (s1 : Int32)  (out : Int32 × PM) (h : jjX12_text_36 μ  s1 = some out) (hK : Q (some (.int out.1)) (go_mk tx out.2)) : Go w 12 0 0 mtX12_text 36 [(0, .ref 401)] [.int s1, .ref 401] (go_mk tx μ) (go_Z w Q) := by
  unfold jjX12_text_36 at h
  obtain ⟨μ3, hμ3, h⟩ := go_let_e h
  refine pp_putI dX12_text_36 ff_X12_26 (Or.inl rfl) sh_401 hμ3 ?_
  refine go_aload_n dX12_text_39 0 rfl ?_
  refine go_iconst (v := 0) dX12_text_40 (by decide) ?_
  obtain ⟨μ4, hμ4, h⟩ := go_let_e h
  refine pp_putI dX12_text_41 ff_X12_87 (Or.inl rfl) sh_401 hμ4 ?_
  refine go_aload_n dX12_text_44 0 rfl ?_
  refine pp_getI dX12_text_45 ff_X12_22 (by decide) sh_401 ?_
  refine go_if_eq 53 dX12_text_48 (by decide) (fun hc => ?_) (fun hc => ?_)
  · have h := go_ifp hc h
    refine go_aload_n dX12_text_53 0 rfl ?_
    refine pp_getR dX12_text_54 ff_X12_7 (Or.inr ⟨_, rfl⟩) sh_401 rf_401_0 ?_
    refine go_iconst (v := 2) dX12_text_57 (by decide) ?_
    refine go_dup2 dX12_text_58 rfl rfl ?_
    refine pp_ildc (q := 2) dX12_text_59 sh_402 (by decide) ?_
    refine go_iconst (v := 1) dX12_text_60 (by decide) ?_
    refine go_iadd dX12_text_61 ?_
    obtain ⟨μ5, hμ5, h⟩ := go_let_e h
    refine pp_istc (q := 2) dX12_text_62 sh_402 (by decide) hμ5 ?_
    refine go_aload_n dX12_text_63 0 rfl ?_
    refine pp_getR dX12_text_64 ff_X12_7 (Or.inr ⟨_, rfl⟩) sh_401 rf_401_0 ?_
    refine go_iconst (v := 2) dX12_text_67 (by decide) ?_
    refine pp_ildc (q := 2) dX12_text_68 sh_402 (by decide) ?_
    refine go_iconst (v := 1) dX12_text_69 (by decide) ?_
    refine go_isub dX12_text_70 ?_
    cases h
    exact go_iret dX12_text_71 rfl hK
  · have h := go_ifn hc h
    refine go_iconst (v := (-1)) dX12_text_51 (by decide) ?_
    cases h
    exact go_iret dX12_text_52 rfl hK
set_option maxRecDepth 20000 in
set_option maxHeartbeats 4000000 in
theorem cmX12_text (w : go_Wd) (tx : Nat) (Q : Option Value → go_M → Prop) (μ : PM)  (out : Int32 × PM) (h : fX12_text μ = some out) (hK : Q (some (.int out.1)) (go_mk tx out.2)) : Go w 12 0 0 mtX12_text 0 [(0, .ref 401)] [] (go_mk tx μ) (go_Z w Q) := by
  unfold fX12_text at h
  refine go_aload_n dX12_text_0 0 rfl ?_
  refine pp_getR dX12_text_1 ff_X12_7 (Or.inr ⟨_, rfl⟩) sh_401 rf_401_0 ?_
  refine go_iconst (v := 2) dX12_text_4 (by decide) ?_
  refine pp_ildc (q := 2) dX12_text_5 sh_402 (by decide) ?_
  refine go_iconst (v := 4) dX12_text_6 (by decide) ?_
  refine go_icmp_ne 12 dX12_text_7 (by decide) (fun hc => ?_) (fun hc => ?_)
  · have h := go_ifn hc h
    refine go_aload_n dX12_text_12 0 rfl ?_
    refine go_aload_n dX12_text_13 0 rfl ?_
    obtain ⟨q1, hq1, h⟩ := go_bind h
    refine pp_callV (as := []) (st := [.ref 401]) (rv := (some (.int q1.1))) (μ1 := q1.2) (st1 := [.int q1.1, .ref 401]) dX12_text_14 ll_X12_250 sh_401 (by decide) rfl (ctX12_readText  hq1) rfl (Nat.le_of_ble_eq_true rfl) (Nat.le_of_ble_eq_true rfl) (go_Z_up w _) rfl rfl ?_
    obtain ⟨μ2, hμ2, h⟩ := go_let_e h
    refine pp_putI dX12_text_17 ff_X12_22 (Or.inl rfl) sh_401 hμ2 ?_
    refine go_aload_n dX12_text_20 0 rfl ?_
    refine go_aload_n dX12_text_21 0 rfl ?_
    refine pp_getI dX12_text_22 ff_X12_22 (by decide) sh_401 ?_
    refine go_if_ne 32 dX12_text_25 (by decide) (fun hc => ?_) (fun hc => ?_)
    · have h := go_ifn hc h
      refine go_aload_n dX12_text_32 0 rfl ?_
      refine pp_getI dX12_text_33 ff_X12_99 (by decide) sh_401 ?_
      refine go_pick [0] rfl ?_
      exact jqX12_text_36 w tx Q μ2    ((μ2.1 401 8))  _ h hK
    · have h := go_ifp hc h
      refine go_iconst (v := (-1)) dX12_text_28 (by decide) ?_
      refine go_goto 36 dX12_text_29 (by decide) ?_
      refine go_pick [0] rfl ?_
      exact jqX12_text_36 w tx Q μ2    ((-1))  _ h hK
  · have h := go_ifp hc h
    refine go_iconst (v := (-1)) dX12_text_10 (by decide) ?_
    cases h
    exact go_iret dX12_text_11 rfl hK
theorem ctX12_text {w : go_Wd} {tx : Nat} {μ : PM}  {r : Int32} {μ1 : PM}  (h : fX12_text μ = some (r, μ1)) : Ct w 12 0 0 mtX12_text [.ref 401] (go_mk tx μ) (fun r' M' => r' = some (.int r) ∧ M' = go_mk tx μ1) :=
  go_entry rfl (by decide) (Nat.le_of_ble_eq_true rfl) (cmX12_text w tx _ μ  _ h ⟨rfl, rfl⟩)
def fX12_fault (μ : PM) (a0 : Int32) : Int32 :=
  (if a0 = 0 then (μ.1 401 5) else (if a0 = 1 then (μ.1 401 6) else (-1)))
set_option maxRecDepth 20000 in
set_option maxHeartbeats 4000000 in
theorem cmX12_fault (w : go_Wd) (tx : Nat) (Q : Option Value → go_M → Prop) (μ : PM) (a0 : Int32) (out : Int32) (h : fX12_fault μ a0 = out) (hK : Q (some (.int out)) (go_mk tx μ)) : Go w 0 0 0 mtX12_fault 0 [(0, .ref 401), (1, .int a0)] [] (go_mk tx μ) (go_Z w Q) := by
  unfold fX12_fault at h
  refine go_iload_n dX12_fault_0 1 rfl ?_
  refine go_if_ne 11 dX12_fault_1 (by decide) (fun hc => ?_) (fun hc => ?_)
  · have h := go_ifn hc h
    refine go_iload_n dX12_fault_11 1 rfl ?_
    refine go_iconst (v := 1) dX12_fault_12 (by decide) ?_
    refine go_icmp_ne 23 dX12_fault_13 (by decide) (fun hc => ?_) (fun hc => ?_)
    · have h := go_ifn hc h
      refine go_iconst (v := (-1)) dX12_fault_23 (by decide) ?_
      subst h
      exact go_iret dX12_fault_24 rfl hK
    · have h := go_ifp hc h
      refine go_aload_n dX12_fault_16 0 rfl ?_
      refine pp_getI dX12_fault_17 ff_X12_26 (by decide) sh_401 ?_
      refine go_goto 24 dX12_fault_20 (by decide) ?_
      subst h
      exact go_iret dX12_fault_24 rfl hK
  · have h := go_ifp hc h
    refine go_aload_n dX12_fault_4 0 rfl ?_
    refine pp_getI dX12_fault_5 ff_X12_22 (by decide) sh_401 ?_
    refine go_goto 24 dX12_fault_8 (by decide) ?_
    subst h
    exact go_iret dX12_fault_24 rfl hK
theorem ctX12_fault {w : go_Wd} {tx : Nat} {μ : PM} {a0 : Int32} {r : Int32}  (h : fX12_fault μ a0 = r) : Ct w 0 0 0 mtX12_fault [.ref 401, .int a0] (go_mk tx μ) (fun r' M' => r' = some (.int r) ∧ M' = go_mk tx μ) :=
  go_entry rfl (by decide) (Nat.le_of_ble_eq_true rfl) (cmX12_fault w tx _ μ a0 _ h ⟨rfl, rfl⟩)
def fX12_by (μ : PM) (a0 : Int32) : Int32 × PM :=
  (if (fX12_isIn a0 (-1) ((μ.1 402 2) - 1)) = 0 then (0, μ) else go_let (pm_wi μ 402 3 a0) fun μ1 => (1, μ1))
set_option maxRecDepth 20000 in
set_option maxHeartbeats 4000000 in
theorem cmX12_by (w : go_Wd) (tx : Nat) (Q : Option Value → go_M → Prop) (μ : PM) (a0 : Int32) (out : Int32 × PM) (h : fX12_by μ a0 = out) (hK : Q (some (.int out.1)) (go_mk tx out.2)) : Go w 1 0 0 mtX12_by 0 [(0, .ref 401), (1, .int a0)] [] (go_mk tx μ) (go_Z w Q) := by
  unfold fX12_by at h
  refine go_iload_n dX12_by_0 1 rfl ?_
  refine go_iconst (v := (-1)) dX12_by_1 (by decide) ?_
  refine go_aload_n dX12_by_2 0 rfl ?_
  refine pp_getR dX12_by_3 ff_X12_7 (Or.inr ⟨_, rfl⟩) sh_401 rf_401_0 ?_
  refine go_iconst (v := 2) dX12_by_6 (by decide) ?_
  refine pp_ildc (q := 2) dX12_by_7 sh_402 (by decide) ?_
  refine go_iconst (v := 1) dX12_by_8 (by decide) ?_
  refine go_isub dX12_by_9 ?_
  refine pp_callS (as := [.int a0, .int (-1), .int ((μ.1 402 2) - 1)]) (st := []) (rv := (some (.int (fX12_isIn a0 (-1) ((μ.1 402 2) - 1))))) (μ1 := μ) (st1 := [.int (fX12_isIn a0 (-1) ((μ.1 402 2) - 1))]) dX12_by_10 ll_X12_63 (ctX12_isIn  rfl) rfl (Nat.le_of_ble_eq_true rfl) (Nat.le_of_ble_eq_true rfl) (go_Z_up w _) rfl rfl ?_
  refine go_if_ne 18 dX12_by_13 (by decide) (fun hc => ?_) (fun hc => ?_)
  · have h := go_ifn hc h
    refine go_aload_n dX12_by_18 0 rfl ?_
    refine pp_getR dX12_by_19 ff_X12_7 (Or.inr ⟨_, rfl⟩) sh_401 rf_401_0 ?_
    refine go_iconst (v := 3) dX12_by_22 (by decide) ?_
    refine go_iload_n dX12_by_23 1 rfl ?_
    obtain ⟨μ1, hμ1, h⟩ := go_let_e h
    refine pp_istc (q := 3) dX12_by_24 sh_402 (by decide) hμ1 ?_
    refine go_iconst (v := 1) dX12_by_25 (by decide) ?_
    subst h
    exact go_zret dX12_by_26 rfl (Or.inr rfl) hK
  · have h := go_ifp hc h
    refine go_iconst (v := 0) dX12_by_16 (by decide) ?_
    subst h
    exact go_zret dX12_by_17 rfl (Or.inl rfl) hK
theorem ctX12_by {w : go_Wd} {tx : Nat} {μ : PM} {a0 : Int32} {r : Int32} {μ1 : PM}  (h : fX12_by μ a0 = (r, μ1)) : Ct w 1 0 0 mtX12_by [.ref 401, .int a0] (go_mk tx μ) (fun r' M' => r' = some (.int r) ∧ M' = go_mk tx μ1) :=
  go_entry rfl (by decide) (Nat.le_of_ble_eq_true rfl) (cmX12_by w tx _ μ a0 _ h ⟨rfl, rfl⟩)
def fX12_clip (a0 : Int64) : Int64 :=
  (if (lg_cmp a0 1000000) ≤ 0 then (if 0 ≤ (lg_cmp a0 (-1000000)) then a0 else (-1000000)) else 1000000)
set_option maxRecDepth 20000 in
set_option maxHeartbeats 4000000 in
theorem cmX12_clip (w : go_Wd) (tx : Nat) (Q : Option Value → go_M → Prop) (μ : PM) (a0 : Int64) (out : Int64) (h : fX12_clip a0 = out) (hK : Q (some (.long out)) (go_mk tx μ)) : Go w 0 0 0 mtX12_clip 0 [(0, .long a0)] [] (go_mk tx μ) (go_Z w Q) := by
  unfold fX12_clip at h
  refine go_lload_n dX12_clip_0 0 rfl ?_
  refine go_ldc2 dX12_clip_1 kl_X12_253 ?_
  refine go_lcmp dX12_clip_4 ?_
  refine go_if_le 14 dX12_clip_5 (by decide) (fun hc => ?_) (fun hc => ?_)
  · have h := go_ifp hc h
    refine go_lload_n dX12_clip_14 0 rfl ?_
    refine go_ldc2 dX12_clip_15 kl_X12_255 ?_
    refine go_lcmp dX12_clip_18 ?_
    refine go_if_ge 28 dX12_clip_19 (by decide) (fun hc => ?_) (fun hc => ?_)
    · have h := go_ifp hc h
      refine go_lload_n dX12_clip_28 0 rfl ?_
      subst h
      exact go_lret dX12_clip_29 rfl hK
    · have h := go_ifn hc h
      refine go_ldc2 dX12_clip_22 kl_X12_255 ?_
      refine go_goto 29 dX12_clip_25 (by decide) ?_
      subst h
      exact go_lret dX12_clip_29 rfl hK
  · have h := go_ifn hc h
    refine go_ldc2 dX12_clip_8 kl_X12_253 ?_
    refine go_goto 29 dX12_clip_11 (by decide) ?_
    subst h
    exact go_lret dX12_clip_29 rfl hK
theorem ctX12_clip {w : go_Wd} {tx : Nat} {μ : PM} {a0 : Int64} {r : Int64}  (h : fX12_clip a0 = r) : Ct w 0 0 0 mtX12_clip [.long a0] (go_mk tx μ) (fun r' M' => r' = some (.long r) ∧ M' = go_mk tx μ) :=
  go_entry rfl (by decide) (Nat.le_of_ble_eq_true rfl) (cmX12_clip w tx _ μ a0 _ h ⟨rfl, rfl⟩)
def fX12_two (a0 : Int32) (a1 : Int64) (a2 : Int64) : Option (Int64) :=
  (if a0 = 6 then some ((fX12_clip (a1 + a2))) else (if a0 = 7 then some ((fX12_clip (a1 - a2))) else (if a0 = 8 then some ((fX12_clip (a1 * a2))) else (if (lg_cmp a2 0) = 0 then some (0) else go_nzl a2 <| some ((fX12_clip (a1 / a2)))))))
set_option maxRecDepth 20000 in
set_option maxHeartbeats 4000000 in
theorem cmX12_two (w : go_Wd) (tx : Nat) (Q : Option Value → go_M → Prop) (μ : PM) (a0 : Int32) (a1 : Int64) (a2 : Int64) (out : Int64) (h : fX12_two a0 a1 a2 = some out) (hK : Q (some (.long out)) (go_mk tx μ)) : Go w 1 0 0 mtX12_two 0 [(0, .int a0), (1, .long a1), (3, .long a2)] [] (go_mk tx μ) (go_Z w Q) := by
  unfold fX12_two at h
  refine go_iload_n dX12_two_0 0 rfl ?_
  by_cases hc1 : a0 = 6
  · have h := go_ifp hc1 h
    refine go_tabIn (off := 27) 28 dX12_two_1 6 hc1 (by decide) (by decide) (by decide) (by decide) ?_
    refine go_lload_n dX12_two_28 1 rfl ?_
    refine go_lload_n dX12_two_29 2 rfl ?_
    refine go_ladd dX12_two_30 ?_
    refine pp_callS (as := [.long (a1 + a2)]) (st := []) (rv := (some (.long (fX12_clip (a1 + a2))))) (μ1 := μ) (st1 := [.long (fX12_clip (a1 + a2))]) dX12_two_31 ll_X12_257 (ctX12_clip  rfl) rfl (Nat.le_of_ble_eq_true rfl) (Nat.le_of_ble_eq_true rfl) (go_Z_up w _) rfl rfl ?_
    cases h
    exact go_lret dX12_two_34 rfl hK
  · have h := go_ifn hc1 h
    by_cases hc2 : a0 = 7
    · have h := go_ifp hc2 h
      refine go_tabIn (off := 34) 35 dX12_two_1 7 hc2 (by decide) (by decide) (by decide) (by decide) ?_
      refine go_lload_n dX12_two_35 1 rfl ?_
      refine go_lload_n dX12_two_36 2 rfl ?_
      refine go_lsub dX12_two_37 ?_
      refine pp_callS (as := [.long (a1 - a2)]) (st := []) (rv := (some (.long (fX12_clip (a1 - a2))))) (μ1 := μ) (st1 := [.long (fX12_clip (a1 - a2))]) dX12_two_38 ll_X12_257 (ctX12_clip  rfl) rfl (Nat.le_of_ble_eq_true rfl) (Nat.le_of_ble_eq_true rfl) (go_Z_up w _) rfl rfl ?_
      cases h
      exact go_lret dX12_two_41 rfl hK
    · have h := go_ifn hc2 h
      by_cases hc3 : a0 = 8
      · have h := go_ifp hc3 h
        refine go_tabIn (off := 41) 42 dX12_two_1 8 hc3 (by decide) (by decide) (by decide) (by decide) ?_
        refine go_lload_n dX12_two_42 1 rfl ?_
        refine go_lload_n dX12_two_43 2 rfl ?_
        refine go_lmul dX12_two_44 ?_
        refine pp_callS (as := [.long (a1 * a2)]) (st := []) (rv := (some (.long (fX12_clip (a1 * a2))))) (μ1 := μ) (st1 := [.long (fX12_clip (a1 * a2))]) dX12_two_45 ll_X12_257 (ctX12_clip  rfl) rfl (Nat.le_of_ble_eq_true rfl) (Nat.le_of_ble_eq_true rfl) (go_Z_up w _) rfl rfl ?_
        cases h
        exact go_lret dX12_two_48 rfl hK
      · have h := go_ifn hc3 h
        refine go_tabOut 49 dX12_two_1 (by have g0 := go_ne_i (n := 6) hc1 (by decide); have g1 := go_ne_i (n := 7) hc2 (by decide); have g2 := go_ne_i (n := 8) hc3 (by decide); omega) (by decide) ?_
        refine go_lload_n dX12_two_49 2 rfl ?_
        refine go_lconst (v := 0) dX12_two_50 (by decide) ?_
        refine go_lcmp dX12_two_51 ?_
        refine go_if_ne 59 dX12_two_52 (by decide) (fun hc => ?_) (fun hc => ?_)
        · have h := go_ifn hc h
          refine go_lload_n dX12_two_59 1 rfl ?_
          refine go_lload_n dX12_two_60 2 rfl ?_
          obtain ⟨hz4, h⟩ := go_nzl_e h
          refine go_ldiv dX12_two_61 hz4 ?_
          refine pp_callS (as := [.long (a1 / a2)]) (st := []) (rv := (some (.long (fX12_clip (a1 / a2))))) (μ1 := μ) (st1 := [.long (fX12_clip (a1 / a2))]) dX12_two_62 ll_X12_257 (ctX12_clip  rfl) rfl (Nat.le_of_ble_eq_true rfl) (Nat.le_of_ble_eq_true rfl) (go_Z_up w _) rfl rfl ?_
          cases h
          exact go_lret dX12_two_65 rfl hK
        · have h := go_ifp hc h
          refine go_lconst (v := 0) dX12_two_55 (by decide) ?_
          refine go_goto 65 dX12_two_56 (by decide) ?_
          cases h
          exact go_lret dX12_two_65 rfl hK
theorem ctX12_two {w : go_Wd} {tx : Nat} {μ : PM} {a0 : Int32} {a1 : Int64} {a2 : Int64} {r : Int64}  (h : fX12_two a0 a1 a2 = some r) : Ct w 1 0 0 mtX12_two [.int a0, .long a1, .long a2] (go_mk tx μ) (fun r' M' => r' = some (.long r) ∧ M' = go_mk tx μ) :=
  go_entry rfl (by decide) (Nat.le_of_ble_eq_true rfl) (cmX12_two w tx _ μ a0 a1 a2 _ h ⟨rfl, rfl⟩)
def fX12_isAsked (a0 : Int32) (a1 : Int64) (a2 : Int64) : Int32 :=
  (if a0 = 10 then (if 0 ≤ (lg_cmp a1 a2) then 0 else 1) else (if a0 = 11 then (if 0 < (lg_cmp a1 a2) then 0 else 1) else (if a0 = 12 then (if (lg_cmp a1 a2) ≤ 0 then 0 else 1) else (if a0 = 13 then (if (lg_cmp a1 a2) < 0 then 0 else 1) else (if a0 = 14 then (if (lg_cmp a1 a2) = 0 then 1 else 0) else (if (lg_cmp a1 a2) = 0 then 0 else 1))))))
set_option maxRecDepth 20000 in
set_option maxHeartbeats 4000000 in
theorem cmX12_isAsked (w : go_Wd) (tx : Nat) (Q : Option Value → go_M → Prop) (μ : PM) (a0 : Int32) (a1 : Int64) (a2 : Int64) (out : Int32) (h : fX12_isAsked a0 a1 a2 = out) (hK : Q (some (.int out)) (go_mk tx μ)) : Go w 0 0 0 mtX12_isAsked 0 [(0, .int a0), (1, .long a1), (3, .long a2)] [] (go_mk tx μ) (go_Z w Q) := by
  unfold fX12_isAsked at h
  refine go_iload_n dX12_isAsked_0 0 rfl ?_
  refine go_bipush (v := 10) dX12_isAsked_1 (by decide) ?_
  refine go_icmp_ne 20 dX12_isAsked_3 (by decide) (fun hc => ?_) (fun hc => ?_)
  · have h := go_ifn hc h
    refine go_iload_n dX12_isAsked_20 0 rfl ?_
    refine go_bipush (v := 11) dX12_isAsked_21 (by decide) ?_
    refine go_icmp_ne 40 dX12_isAsked_23 (by decide) (fun hc => ?_) (fun hc => ?_)
    · have h := go_ifn hc h
      refine go_iload_n dX12_isAsked_40 0 rfl ?_
      refine go_bipush (v := 12) dX12_isAsked_41 (by decide) ?_
      refine go_icmp_ne 60 dX12_isAsked_43 (by decide) (fun hc => ?_) (fun hc => ?_)
      · have h := go_ifn hc h
        refine go_iload_n dX12_isAsked_60 0 rfl ?_
        refine go_bipush (v := 13) dX12_isAsked_61 (by decide) ?_
        refine go_icmp_ne 80 dX12_isAsked_63 (by decide) (fun hc => ?_) (fun hc => ?_)
        · have h := go_ifn hc h
          refine go_iload_n dX12_isAsked_80 0 rfl ?_
          refine go_bipush (v := 14) dX12_isAsked_81 (by decide) ?_
          refine go_icmp_ne 100 dX12_isAsked_83 (by decide) (fun hc => ?_) (fun hc => ?_)
          · have h := go_ifn hc h
            refine go_lload_n dX12_isAsked_100 1 rfl ?_
            refine go_lload_n dX12_isAsked_101 2 rfl ?_
            refine go_lcmp dX12_isAsked_102 ?_
            refine go_if_eq 110 dX12_isAsked_103 (by decide) (fun hc => ?_) (fun hc => ?_)
            · have h := go_ifp hc h
              refine go_iconst (v := 0) dX12_isAsked_110 (by decide) ?_
              subst h
              exact go_zret dX12_isAsked_111 rfl (Or.inl rfl) hK
            · have h := go_ifn hc h
              refine go_iconst (v := 1) dX12_isAsked_106 (by decide) ?_
              refine go_goto 111 dX12_isAsked_107 (by decide) ?_
              subst h
              exact go_zret dX12_isAsked_111 rfl (Or.inr rfl) hK
          · have h := go_ifp hc h
            refine go_lload_n dX12_isAsked_86 1 rfl ?_
            refine go_lload_n dX12_isAsked_87 2 rfl ?_
            refine go_lcmp dX12_isAsked_88 ?_
            refine go_if_ne 96 dX12_isAsked_89 (by decide) (fun hc => ?_) (fun hc => ?_)
            · have h := go_ifn hc h
              refine go_iconst (v := 0) dX12_isAsked_96 (by decide) ?_
              refine go_goto 111 dX12_isAsked_97 (by decide) ?_
              subst h
              exact go_zret dX12_isAsked_111 rfl (Or.inl rfl) hK
            · have h := go_ifp hc h
              refine go_iconst (v := 1) dX12_isAsked_92 (by decide) ?_
              refine go_goto 111 dX12_isAsked_93 (by decide) ?_
              subst h
              exact go_zret dX12_isAsked_111 rfl (Or.inr rfl) hK
        · have h := go_ifp hc h
          refine go_lload_n dX12_isAsked_66 1 rfl ?_
          refine go_lload_n dX12_isAsked_67 2 rfl ?_
          refine go_lcmp dX12_isAsked_68 ?_
          refine go_if_lt 76 dX12_isAsked_69 (by decide) (fun hc => ?_) (fun hc => ?_)
          · have h := go_ifp hc h
            refine go_iconst (v := 0) dX12_isAsked_76 (by decide) ?_
            refine go_goto 111 dX12_isAsked_77 (by decide) ?_
            subst h
            exact go_zret dX12_isAsked_111 rfl (Or.inl rfl) hK
          · have h := go_ifn hc h
            refine go_iconst (v := 1) dX12_isAsked_72 (by decide) ?_
            refine go_goto 111 dX12_isAsked_73 (by decide) ?_
            subst h
            exact go_zret dX12_isAsked_111 rfl (Or.inr rfl) hK
      · have h := go_ifp hc h
        refine go_lload_n dX12_isAsked_46 1 rfl ?_
        refine go_lload_n dX12_isAsked_47 2 rfl ?_
        refine go_lcmp dX12_isAsked_48 ?_
        refine go_if_le 56 dX12_isAsked_49 (by decide) (fun hc => ?_) (fun hc => ?_)
        · have h := go_ifp hc h
          refine go_iconst (v := 0) dX12_isAsked_56 (by decide) ?_
          refine go_goto 111 dX12_isAsked_57 (by decide) ?_
          subst h
          exact go_zret dX12_isAsked_111 rfl (Or.inl rfl) hK
        · have h := go_ifn hc h
          refine go_iconst (v := 1) dX12_isAsked_52 (by decide) ?_
          refine go_goto 111 dX12_isAsked_53 (by decide) ?_
          subst h
          exact go_zret dX12_isAsked_111 rfl (Or.inr rfl) hK
    · have h := go_ifp hc h
      refine go_lload_n dX12_isAsked_26 1 rfl ?_
      refine go_lload_n dX12_isAsked_27 2 rfl ?_
      refine go_lcmp dX12_isAsked_28 ?_
      refine go_if_gt 36 dX12_isAsked_29 (by decide) (fun hc => ?_) (fun hc => ?_)
      · have h := go_ifp hc h
        refine go_iconst (v := 0) dX12_isAsked_36 (by decide) ?_
        refine go_goto 111 dX12_isAsked_37 (by decide) ?_
        subst h
        exact go_zret dX12_isAsked_111 rfl (Or.inl rfl) hK
      · have h := go_ifn hc h
        refine go_iconst (v := 1) dX12_isAsked_32 (by decide) ?_
        refine go_goto 111 dX12_isAsked_33 (by decide) ?_
        subst h
        exact go_zret dX12_isAsked_111 rfl (Or.inr rfl) hK
  · have h := go_ifp hc h
    refine go_lload_n dX12_isAsked_6 1 rfl ?_
    refine go_lload_n dX12_isAsked_7 2 rfl ?_
    refine go_lcmp dX12_isAsked_8 ?_
    refine go_if_ge 16 dX12_isAsked_9 (by decide) (fun hc => ?_) (fun hc => ?_)
    · have h := go_ifp hc h
      refine go_iconst (v := 0) dX12_isAsked_16 (by decide) ?_
      refine go_goto 111 dX12_isAsked_17 (by decide) ?_
      subst h
      exact go_zret dX12_isAsked_111 rfl (Or.inl rfl) hK
    · have h := go_ifn hc h
      refine go_iconst (v := 1) dX12_isAsked_12 (by decide) ?_
      refine go_goto 111 dX12_isAsked_13 (by decide) ?_
      subst h
      exact go_zret dX12_isAsked_111 rfl (Or.inr rfl) hK
theorem ctX12_isAsked {w : go_Wd} {tx : Nat} {μ : PM} {a0 : Int32} {a1 : Int64} {a2 : Int64} {r : Int32}  (h : fX12_isAsked a0 a1 a2 = r) : Ct w 0 0 0 mtX12_isAsked [.int a0, .long a1, .long a2] (go_mk tx μ) (fun r' M' => r' = some (.int r) ∧ M' = go_mk tx μ) :=
  go_entry rfl (by decide) (Nat.le_of_ble_eq_true rfl) (cmX12_isAsked w tx _ μ a0 a1 a2 _ h ⟨rfl, rfl⟩)
theorem bzX12_isAsked {a0 : Int32} {a1 : Int64} {a2 : Int64} {r : Int32} (h : fX12_isAsked a0 a1 a2 = r) : r = 0 ∨ r = 1 := by
  subst h
  show go_bi _
  unfold fX12_isAsked
  repeat' first | exact bi_0 | exact bi_1 | with_reducible apply bi_ite
def fX12_isIce (μ : PM) (a0 : Int32) : Option (Int32) :=
  (if (fX12_isName μ a0) = 0 then some (0) else (fX12_get μ a0 0).bind fun q1 => (if q1 = (-1) then some (1) else some (0)))
set_option maxRecDepth 20000 in
set_option maxHeartbeats 4000000 in
theorem cmX12_isIce (w : go_Wd) (tx : Nat) (Q : Option Value → go_M → Prop) (μ : PM) (a0 : Int32) (out : Int32) (h : fX12_isIce μ a0 = some out) (hK : Q (some (.int out)) (go_mk tx μ)) : Go w 2 0 0 mtX12_isIce 0 [(0, .ref 401), (1, .int a0)] [] (go_mk tx μ) (go_Z w Q) := by
  unfold fX12_isIce at h
  refine go_aload_n dX12_isIce_0 0 rfl ?_
  refine go_iload_n dX12_isIce_1 1 rfl ?_
  refine pp_callV (as := [.int a0]) (st := []) (rv := (some (.int (fX12_isName μ a0)))) (μ1 := μ) (st1 := [.int (fX12_isName μ a0)]) dX12_isIce_2 ll_X12_261 sh_401 (by decide) rfl (ctX12_isName  rfl) rfl (Nat.le_of_ble_eq_true rfl) (Nat.le_of_ble_eq_true rfl) (go_Z_up w _) rfl rfl ?_
  refine go_if_eq 22 dX12_isIce_5 (by decide) (fun hc => ?_) (fun hc => ?_)
  · have h := go_ifp hc h
    refine go_iconst (v := 0) dX12_isIce_22 (by decide) ?_
    cases h
    exact go_zret dX12_isIce_23 rfl (Or.inl rfl) hK
  · have h := go_ifn hc h
    refine go_aload_n dX12_isIce_8 0 rfl ?_
    refine go_iload_n dX12_isIce_9 1 rfl ?_
    refine go_iconst (v := 0) dX12_isIce_10 (by decide) ?_
    obtain ⟨q1, hq1, h⟩ := go_bind h
    refine pp_callV (as := [.int a0, .int 0]) (st := []) (rv := (some (.int q1))) (μ1 := μ) (st1 := [.int q1]) dX12_isIce_11 ll_X12_264 sh_401 (by decide) rfl (ctX12_get  hq1) rfl (Nat.le_of_ble_eq_true rfl) (Nat.le_of_ble_eq_true rfl) (go_Z_up w _) rfl rfl ?_
    refine go_iconst (v := (-1)) dX12_isIce_14 (by decide) ?_
    refine go_icmp_ne 22 dX12_isIce_15 (by decide) (fun hc => ?_) (fun hc => ?_)
    · have h := go_ifn hc h
      refine go_iconst (v := 0) dX12_isIce_22 (by decide) ?_
      cases h
      exact go_zret dX12_isIce_23 rfl (Or.inl rfl) hK
    · have h := go_ifp hc h
      refine go_iconst (v := 1) dX12_isIce_18 (by decide) ?_
      refine go_goto 23 dX12_isIce_19 (by decide) ?_
      cases h
      exact go_zret dX12_isIce_23 rfl (Or.inr rfl) hK
theorem ctX12_isIce {w : go_Wd} {tx : Nat} {μ : PM} {a0 : Int32} {r : Int32}  (h : fX12_isIce μ a0 = some r) : Ct w 2 0 0 mtX12_isIce [.ref 401, .int a0] (go_mk tx μ) (fun r' M' => r' = some (.int r) ∧ M' = go_mk tx μ) :=
  go_entry rfl (by decide) (Nat.le_of_ble_eq_true rfl) (cmX12_isIce w tx _ μ a0 _ h ⟨rfl, rfl⟩)
def fX12_iceOf (μ : PM) (a0 : Int64) : Option (Int64) :=
  (if (lg_cmp a0 0) < 0 then some (0) else (if 0 ≤ (lg_cmp a0 6) then some (0) else (fX12_isIce μ a0.toInt32).bind fun q1 => (if q1 = 0 then some (0) else some (1))))
set_option maxRecDepth 20000 in
set_option maxHeartbeats 4000000 in
theorem cmX12_iceOf (w : go_Wd) (tx : Nat) (Q : Option Value → go_M → Prop) (μ : PM) (a0 : Int64) (out : Int64) (h : fX12_iceOf μ a0 = some out) (hK : Q (some (.long out)) (go_mk tx μ)) : Go w 3 0 0 mtX12_iceOf 0 [(0, .ref 401), (1, .long a0)] [] (go_mk tx μ) (go_Z w Q) := by
  unfold fX12_iceOf at h
  refine go_lload_n dX12_iceOf_0 1 rfl ?_
  refine go_lconst (v := 0) dX12_iceOf_1 (by decide) ?_
  refine go_lcmp dX12_iceOf_2 ?_
  refine go_if_lt 27 dX12_iceOf_3 (by decide) (fun hc => ?_) (fun hc => ?_)
  · have h := go_ifp hc h
    refine go_lconst (v := 0) dX12_iceOf_27 (by decide) ?_
    cases h
    exact go_lret dX12_iceOf_28 rfl hK
  · have h := go_ifn hc h
    refine go_lload_n dX12_iceOf_6 1 rfl ?_
    refine go_ldc2 dX12_iceOf_7 kl_X12_267 ?_
    refine go_lcmp dX12_iceOf_10 ?_
    refine go_if_ge 27 dX12_iceOf_11 (by decide) (fun hc => ?_) (fun hc => ?_)
    · have h := go_ifp hc h
      refine go_lconst (v := 0) dX12_iceOf_27 (by decide) ?_
      cases h
      exact go_lret dX12_iceOf_28 rfl hK
    · have h := go_ifn hc h
      refine go_aload_n dX12_iceOf_14 0 rfl ?_
      refine go_lload_n dX12_iceOf_15 1 rfl ?_
      refine go_l2i dX12_iceOf_16 ?_
      obtain ⟨q1, hq1, h⟩ := go_bind h
      refine pp_callV (as := [.int a0.toInt32]) (st := []) (rv := (some (.int q1))) (μ1 := μ) (st1 := [.int q1]) dX12_iceOf_17 ll_X12_269 sh_401 (by decide) rfl (ctX12_isIce  hq1) rfl (Nat.le_of_ble_eq_true rfl) (Nat.le_of_ble_eq_true rfl) (go_Z_up w _) rfl rfl ?_
      refine go_if_eq 27 dX12_iceOf_20 (by decide) (fun hc => ?_) (fun hc => ?_)
      · have h := go_ifp hc h
        refine go_lconst (v := 0) dX12_iceOf_27 (by decide) ?_
        cases h
        exact go_lret dX12_iceOf_28 rfl hK
      · have h := go_ifn hc h
        refine go_lconst (v := 1) dX12_iceOf_23 (by decide) ?_
        refine go_goto 28 dX12_iceOf_24 (by decide) ?_
        cases h
        exact go_lret dX12_iceOf_28 rfl hK
theorem ctX12_iceOf {w : go_Wd} {tx : Nat} {μ : PM} {a0 : Int64} {r : Int64}  (h : fX12_iceOf μ a0 = some r) : Ct w 3 0 0 mtX12_iceOf [.ref 401, .long a0] (go_mk tx μ) (fun r' M' => r' = some (.long r) ∧ M' = go_mk tx μ) :=
  go_entry rfl (by decide) (Nat.le_of_ble_eq_true rfl) (cmX12_iceOf w tx _ μ a0 _ h ⟨rfl, rfl⟩)
def lbX12_digitOf_33 (a0 : Int64) (a1 : Int64)  (v4 : Int64) (v6 : Int64) : Option ((Int64 × Int64) ⊕ (Int64)) :=
  (if 0 ≤ (lg_cmp v6 a0) then some (.inr ((jreml v4 10))) else some (.inl ((v4 / 10), (v6 + 1))))
def jjX12_digitOf_28 (a0 : Int64) (a1 : Int64)  (s0 : Int64) : Option (Int64) :=
  ((lp (fun s => lbX12_digitOf_33 a0 a1 s.1 s.2) go_fuel (s0, 0)).bind fun ρ1 => some ρ1)
def fX12_digitOf (a0 : Int64) (a1 : Int64) : Option (Int64) :=
  (if (lg_cmp a0 0) < 0 then some (0) else (if (lg_cmp a0 9) ≤ 0 then (if 0 ≤ (lg_cmp a1 0) then jjX12_digitOf_28 a0 a1 a1 else jjX12_digitOf_28 a0 a1 ((-a1))) else some (0)))
def ggX12_digitOf_33 (w : go_Wd) (tx : Nat) (Q : Option Value → go_M → Prop) (μ : PM) (a0 : Int64) (a1 : Int64)  (s : Int64 × Int64) : Prop := Go w 0 0 0 mtX12_digitOf 33 [(0, .long a0), (4, .long s.1), (6, .long s.2)] [] (go_mk tx μ) (go_Z w Q)
def eeX12_digitOf_33 (w : go_Wd) (tx : Nat) (Q : Option Value → go_M → Prop) (μ : PM) (a0 : Int64) (a1 : Int64)  (y : Int64) : Prop := Q (some (.long y)) (go_mk tx μ)
set_option maxRecDepth 20000 in
set_option maxHeartbeats 4000000 in
theorem lqX12_digitOf_33 (w : go_Wd) (tx : Nat) (Q : Option Value → go_M → Prop) (μ : PM) (a0 : Int64) (a1 : Int64)   (v4 : Int64) (v6 : Int64) (out : (Int64 × Int64) ⊕ (Int64)) (h : lbX12_digitOf_33 a0 a1  v4 v6 = some out) (hK : go_out (ggX12_digitOf_33 w tx Q μ a0 a1 ) (eeX12_digitOf_33 w tx Q μ a0 a1 ) out) : ggX12_digitOf_33 w tx Q μ a0 a1  (v4, v6) := by
  unfold lbX12_digitOf_33 at h
  show Go w 0 0 0 mtX12_digitOf 33 [(0, .long a0), (4, .long v4), (6, .long v6)] [] (go_mk tx μ) (go_Z w Q)
  refine go_lload dX12_digitOf_33 2 rfl ?_
  refine go_lload_n dX12_digitOf_35 0 rfl ?_
  refine go_lcmp dX12_digitOf_36 ?_
  refine go_if_ge 57 dX12_digitOf_37 (by decide) (fun hc => ?_) (fun hc => ?_)
  · have h := go_ifp hc h
    refine go_lload dX12_digitOf_57 1 rfl ?_
    refine go_ldc2 dX12_digitOf_59 kl_X12_274 ?_
    refine go_lremJ dX12_digitOf_62 (by decide) ?_
    cases h
    exact go_lret dX12_digitOf_63 rfl hK
  · have h := go_ifn hc h
    refine go_lload dX12_digitOf_40 1 rfl ?_
    refine go_ldc2 dX12_digitOf_42 kl_X12_274 ?_
    refine go_ldiv dX12_digitOf_45 (by decide) ?_
    refine go_lstore dX12_digitOf_46 (by decide) rfl ?_
    show Go w 0 0 0 mtX12_digitOf 48 [(4, .long (v4 / 10)), (0, .long a0), (6, .long v6)] [] (go_mk tx μ) (go_Z w Q)
    refine go_lload dX12_digitOf_48 2 rfl ?_
    refine go_lconst (v := 1) dX12_digitOf_50 (by decide) ?_
    refine go_ladd dX12_digitOf_51 ?_
    refine go_lstore dX12_digitOf_52 (by decide) rfl ?_
    show Go w 0 0 0 mtX12_digitOf 54 [(6, .long (v6 + 1)), (4, .long (v4 / 10)), (0, .long a0)] [] (go_mk tx μ) (go_Z w Q)
    refine go_goto 33 dX12_digitOf_54 (by decide) ?_
    cases h
    have hK : Go w 0 0 0 mtX12_digitOf 33 [(0, .long a0), (4, .long (v4 / 10)), (6, .long (v6 + 1))] [] (go_mk tx μ) (go_Z w Q) := hK
    exact go_pick [2, 1, 0] rfl hK
set_option maxRecDepth 20000 in
set_option maxHeartbeats 4000000 in
theorem jqX12_digitOf_28 (w : go_Wd) (tx : Nat) (Q : Option Value → go_M → Prop) (μ : PM) (a0 : Int64) (a1 : Int64)   (s0 : Int64)  (out : Int64) (h : jjX12_digitOf_28 a0 a1  s0 = some out) (hK : Q (some (.long out)) (go_mk tx μ)) : Go w 0 0 0 mtX12_digitOf 28 [(0, .long a0)] [.long s0] (go_mk tx μ) (go_Z w Q) := by
  unfold jjX12_digitOf_28 at h
  refine go_lstore dX12_digitOf_28 (by decide) rfl ?_
  show Go w 0 0 0 mtX12_digitOf 30 [(4, .long s0), (0, .long a0)] [] (go_mk tx μ) (go_Z w Q)
  refine go_lconst (v := 0) dX12_digitOf_30 (by decide) ?_
  refine go_lstore dX12_digitOf_31 (by decide) rfl ?_
  show Go w 0 0 0 mtX12_digitOf 33 [(6, .long 0), (4, .long s0), (0, .long a0)] [] (go_mk tx μ) (go_Z w Q)
  obtain ⟨ρ1, hρ1, h⟩ := go_bind h
  refine go_pick [2, 1, 0] rfl ?_
  refine go_lp (G := ggX12_digitOf_33 w tx Q μ a0 a1 ) (E := eeX12_digitOf_33 w tx Q μ a0 a1 ) (fun s out h hK => lqX12_digitOf_33 w tx Q μ a0 a1   s.1 s.2 out h hK) go_fuel (s0, 0) ρ1 hρ1 ?_
  cases h
  exact hK
set_option maxRecDepth 20000 in
set_option maxHeartbeats 4000000 in
theorem cmX12_digitOf (w : go_Wd) (tx : Nat) (Q : Option Value → go_M → Prop) (μ : PM) (a0 : Int64) (a1 : Int64) (out : Int64) (h : fX12_digitOf a0 a1 = some out) (hK : Q (some (.long out)) (go_mk tx μ)) : Go w 0 0 0 mtX12_digitOf 0 [(0, .long a0), (2, .long a1)] [] (go_mk tx μ) (go_Z w Q) := by
  unfold fX12_digitOf at h
  refine go_lload_n dX12_digitOf_0 0 rfl ?_
  refine go_lconst (v := 0) dX12_digitOf_1 (by decide) ?_
  refine go_lcmp dX12_digitOf_2 ?_
  refine go_if_lt 14 dX12_digitOf_3 (by decide) (fun hc => ?_) (fun hc => ?_)
  · have h := go_ifp hc h
    refine go_lconst (v := 0) dX12_digitOf_14 (by decide) ?_
    cases h
    exact go_lret dX12_digitOf_15 rfl hK
  · have h := go_ifn hc h
    refine go_lload_n dX12_digitOf_6 0 rfl ?_
    refine go_ldc2 dX12_digitOf_7 kl_X12_272 ?_
    refine go_lcmp dX12_digitOf_10 ?_
    refine go_if_le 16 dX12_digitOf_11 (by decide) (fun hc => ?_) (fun hc => ?_)
    · have h := go_ifp hc h
      refine go_lload_n dX12_digitOf_16 1 rfl ?_
      refine go_lconst (v := 0) dX12_digitOf_17 (by decide) ?_
      refine go_lcmp dX12_digitOf_18 ?_
      refine go_if_ge 27 dX12_digitOf_19 (by decide) (fun hc => ?_) (fun hc => ?_)
      · have h := go_ifp hc h
        refine go_lload_n dX12_digitOf_27 1 rfl ?_
        refine go_pick [0] rfl ?_
        exact jqX12_digitOf_28 w tx Q μ a0 a1   a1  _ h hK
      · have h := go_ifn hc h
        refine go_lload_n dX12_digitOf_22 1 rfl ?_
        refine go_lneg dX12_digitOf_23 ?_
        refine go_goto 28 dX12_digitOf_24 (by decide) ?_
        refine go_pick [0] rfl ?_
        exact jqX12_digitOf_28 w tx Q μ a0 a1   ((-a1))  _ h hK
    · have h := go_ifn hc h
      refine go_lconst (v := 0) dX12_digitOf_14 (by decide) ?_
      cases h
      exact go_lret dX12_digitOf_15 rfl hK
theorem ctX12_digitOf {w : go_Wd} {tx : Nat} {μ : PM} {a0 : Int64} {a1 : Int64} {r : Int64}  (h : fX12_digitOf a0 a1 = some r) : Ct w 0 0 0 mtX12_digitOf [.long a0, .long a1] (go_mk tx μ) (fun r' M' => r' = some (.long r) ∧ M' = go_mk tx μ) :=
  go_entry rfl (by decide) (Nat.le_of_ble_eq_true rfl) (cmX12_digitOf w tx _ μ a0 a1 _ h ⟨rfl, rfl⟩)
def fX12_joined (a0 : Int32) (a1 : Int32) (a2 : Int32) : Int32 :=
  (if a0 = 21 then (if a1 = 0 then 0 else (if a2 = 0 then 0 else 1)) else (if a1 = 0 then (if a2 = 0 then 0 else 1) else 1))
set_option maxRecDepth 20000 in
set_option maxHeartbeats 4000000 in
theorem cmX12_joined (w : go_Wd) (tx : Nat) (Q : Option Value → go_M → Prop) (μ : PM) (a0 : Int32) (a1 : Int32) (a2 : Int32) (out : Int32) (h : fX12_joined a0 a1 a2 = out) (hK : Q (some (.int out)) (go_mk tx μ)) : Go w 0 0 0 mtX12_joined 0 [(0, .int a0), (1, .int a1), (2, .int a2)] [] (go_mk tx μ) (go_Z w Q) := by
  unfold fX12_joined at h
  refine go_iload_n dX12_joined_0 0 rfl ?_
  refine go_bipush (v := 21) dX12_joined_1 (by decide) ?_
  refine go_icmp_ne 22 dX12_joined_3 (by decide) (fun hc => ?_) (fun hc => ?_)
  · have h := go_ifn hc h
    refine go_iload_n dX12_joined_22 1 rfl ?_
    refine go_if_ne 30 dX12_joined_23 (by decide) (fun hc => ?_) (fun hc => ?_)
    · have h := go_ifn hc h
      refine go_iconst (v := 1) dX12_joined_30 (by decide) ?_
      refine go_goto 35 dX12_joined_31 (by decide) ?_
      subst h
      exact go_zret dX12_joined_35 rfl (Or.inr rfl) hK
    · have h := go_ifp hc h
      refine go_iload_n dX12_joined_26 2 rfl ?_
      refine go_if_eq 34 dX12_joined_27 (by decide) (fun hc => ?_) (fun hc => ?_)
      · have h := go_ifp hc h
        refine go_iconst (v := 0) dX12_joined_34 (by decide) ?_
        subst h
        exact go_zret dX12_joined_35 rfl (Or.inl rfl) hK
      · have h := go_ifn hc h
        refine go_iconst (v := 1) dX12_joined_30 (by decide) ?_
        refine go_goto 35 dX12_joined_31 (by decide) ?_
        subst h
        exact go_zret dX12_joined_35 rfl (Or.inr rfl) hK
  · have h := go_ifp hc h
    refine go_iload_n dX12_joined_6 1 rfl ?_
    refine go_if_eq 18 dX12_joined_7 (by decide) (fun hc => ?_) (fun hc => ?_)
    · have h := go_ifp hc h
      refine go_iconst (v := 0) dX12_joined_18 (by decide) ?_
      refine go_goto 35 dX12_joined_19 (by decide) ?_
      subst h
      exact go_zret dX12_joined_35 rfl (Or.inl rfl) hK
    · have h := go_ifn hc h
      refine go_iload_n dX12_joined_10 2 rfl ?_
      refine go_if_eq 18 dX12_joined_11 (by decide) (fun hc => ?_) (fun hc => ?_)
      · have h := go_ifp hc h
        refine go_iconst (v := 0) dX12_joined_18 (by decide) ?_
        refine go_goto 35 dX12_joined_19 (by decide) ?_
        subst h
        exact go_zret dX12_joined_35 rfl (Or.inl rfl) hK
      · have h := go_ifn hc h
        refine go_iconst (v := 1) dX12_joined_14 (by decide) ?_
        refine go_goto 35 dX12_joined_15 (by decide) ?_
        subst h
        exact go_zret dX12_joined_35 rfl (Or.inr rfl) hK
theorem ctX12_joined {w : go_Wd} {tx : Nat} {μ : PM} {a0 : Int32} {a1 : Int32} {a2 : Int32} {r : Int32}  (h : fX12_joined a0 a1 a2 = r) : Ct w 0 0 0 mtX12_joined [.int a0, .int a1, .int a2] (go_mk tx μ) (fun r' M' => r' = some (.int r) ∧ M' = go_mk tx μ) :=
  go_entry rfl (by decide) (Nat.le_of_ble_eq_true rfl) (cmX12_joined w tx _ μ a0 a1 a2 _ h ⟨rfl, rfl⟩)
theorem bzX12_joined {a0 : Int32} {a1 : Int32} {a2 : Int32} {r : Int32} (h : fX12_joined a0 a1 a2 = r) : r = 0 ∨ r = 1 := by
  subst h
  show go_bi _
  unfold fX12_joined
  repeat' first | exact bi_0 | exact bi_1 | with_reducible apply bi_ite
def jjX12_summedUp_212_38 (μ : PM) (a0 : Int32) (a1 : Int32) (v3 : Int32) (v4 : Int32) (v5 : Int32) (v6 : Int32) (v7 : Int32) (s1 : Int32) (s2 : Int64) : Option ((Int32 × Int32 × Int32 × PM) ⊕ (Int64 × PM)) :=
  go_chk s1 330 <| go_let (pm_wl μ 408 s1.toNatClampNeg s2) fun μ12 => some (.inl (v5, v6, (v7 + 1), μ12))
def jjX12_summedUp_172_38 (μ : PM) (a0 : Int32) (a1 : Int32) (v3 : Int32) (v4 : Int32) (v5 : Int32) (v6 : Int32) (v7 : Int32) (v8 : Int32)  : Option ((Int32 × Int32 × Int32 × PM) ⊕ (Int64 × PM)) :=
  (if v8 = 5 then go_chk (v5 - 1) 330 <| jjX12_summedUp_212_38 μ a0 a1 v3 v4 v5 v6 v7 ((v5 - 1)) ((-(μ.2 408 ((v5 - 1) : Int32).toNatClampNeg))) else go_chk (v5 - 1) 330 <| (fX12_iceOf μ (μ.2 408 ((v5 - 1) : Int32).toNatClampNeg)).bind fun q11 => jjX12_summedUp_212_38 μ a0 a1 v3 v4 v5 v6 v7 ((v5 - 1)) q11)
def jjX12_summedUp_363_38 (μ : PM) (a0 : Int32) (a1 : Int32) (v3 : Int32) (v4 : Int32) (v5 : Int32) (v6 : Int32) (v7 : Int32) (s1 : Int32) (s2 : Int32) : Option ((Int32 × Int32 × Int32 × PM) ⊕ (Int64 × PM)) :=
  go_chk s1 330 <| go_let (pm_wi μ 409 s1.toNatClampNeg s2) fun μ20 => some (.inl (v5, v6, (v7 + 1), μ20))
def jjX12_summedUp_283_38 (μ : PM) (a0 : Int32) (a1 : Int32) (v3 : Int32) (v4 : Int32) (v5 : Int32) (v6 : Int32) (v7 : Int32) (s1 : Int32) (s2 : Int64) : Option ((Int32 × Int32 × Int32 × PM) ⊕ (Int64 × PM)) :=
  go_chk s1 330 <| go_let (pm_wl μ 408 s1.toNatClampNeg s2) fun μ29 => some (.inl (v5, v6, (v7 + 1), μ29))
def jjX12_summedUp_112_38 (μ : PM) (a0 : Int32) (a1 : Int32) (v3 : Int32) (v4 : Int32) (v5 : Int32) (v6 : Int32) (v7 : Int32) (s1 : Int32) (s2 : Int64) : Option ((Int32 × Int32 × Int32 × PM) ⊕ (Int64 × PM)) :=
  go_chk s1 330 <| go_let (pm_wl μ 408 s1.toNatClampNeg s2) fun μ39 => some (.inl ((v5 + 1), v6, (v7 + 1), μ39))
def lbX12_summedUp_38 (a0 : Int32) (a1 : Int32) (v3 : Int32) (v4 : Int32) (v5 : Int32) (v6 : Int32) (v7 : Int32) (μ : PM) : Option ((Int32 × Int32 × Int32 × PM) ⊕ (Int64 × PM)) :=
  go_chk (v3 + 2) 2724 <| (if (μ.1 404 ((v3 + 2) : Int32).toNatClampNeg) ≤ v7 then some (.inr (((μ.2 408 0), μ))) else go_chk (v4 + (2 * v7)) 2724 <| go_let ((μ.1 404 ((v4 + (2 * v7)) : Int32).toNatClampNeg)) fun x7 => go_chk ((v4 + (2 * v7)) + 1) 2724 <| go_let ((μ.1 404 (((v4 + (2 * v7)) + 1) : Int32).toNatClampNeg)) fun x9 => (if 1 < x7 then (if x7 = 3 then go_chk (v6 + (-1)) 330 <| (if (μ.1 409 ((v6 + (-1)) : Int32).toNatClampNeg) = 0 then go_chk (v5 + (-1)) 330 <| go_chk ((v5 + (-1)) - 1) 330 <| go_let (pm_wl μ 408 (((v5 + (-1)) - 1) : Int32).toNatClampNeg (μ.2 408 ((v5 + (-1)) : Int32).toNatClampNeg)) fun μ36 => some (.inl ((v5 + (-1)), (v6 + (-1)), (v7 + 1), μ36)) else some (.inl ((v5 + (-1)), (v6 + (-1)), (v7 + 1), μ))) else (if x7 = 5 then jjX12_summedUp_172_38 μ a0 a1 v3 v4 v5 v6 v7 x7 else (if x7 = 2 then jjX12_summedUp_172_38 μ a0 a1 v3 v4 v5 v6 v7 x7 else (if 10 ≤ x7 then (if 20 ≤ x7 then (if x7 = 20 then go_chk (v6 - 1) 330 <| (if (μ.1 409 ((v6 - 1) : Int32).toNatClampNeg) = 0 then jjX12_summedUp_363_38 μ a0 a1 v3 v4 v5 v6 v7 ((v6 - 1)) 1 else jjX12_summedUp_363_38 μ a0 a1 v3 v4 v5 v6 v7 ((v6 - 1)) 0) else go_chk ((v6 + (-1)) - 1) 330 <| go_chk (v6 + (-1)) 330 <| go_chk ((v6 + (-1)) - 1) 330 <| go_let (pm_wi μ 409 (((v6 + (-1)) - 1) : Int32).toNatClampNeg (fX12_joined x7 (μ.1 409 (((v6 + (-1)) - 1) : Int32).toNatClampNeg) (μ.1 409 ((v6 + (-1)) : Int32).toNatClampNeg))) fun μ17 => some (.inl (v5, (v6 + (-1)), (v7 + 1), μ17))) else go_chk (v5 + (-2)) 330 <| go_chk ((v5 + (-2)) + 1) 330 <| go_chk v6 330 <| go_let (pm_wi μ 409 v6.toNatClampNeg (fX12_isAsked x7 (μ.2 408 ((v5 + (-2)) : Int32).toNatClampNeg) (μ.2 408 (((v5 + (-2)) + 1) : Int32).toNatClampNeg))) fun μ24 => some (.inl ((v5 + (-2)), (v6 + 1), (v7 + 1), μ24))) else (if x7 = 4 then go_chk ((v5 + (-1)) - 1) 330 <| go_chk (v5 + (-1)) 330 <| (fX12_digitOf (μ.2 408 (((v5 + (-1)) - 1) : Int32).toNatClampNeg) (μ.2 408 ((v5 + (-1)) : Int32).toNatClampNeg)).bind fun q33 => jjX12_summedUp_283_38 μ a0 a1 v3 v4 ((v5 + (-1))) v6 v7 (((v5 + (-1)) - 1)) q33 else go_chk ((v5 + (-1)) - 1) 330 <| go_chk (v5 + (-1)) 330 <| (fX12_two x7 (μ.2 408 (((v5 + (-1)) - 1) : Int32).toNatClampNeg) (μ.2 408 ((v5 + (-1)) : Int32).toNatClampNeg)).bind fun q28 => jjX12_summedUp_283_38 μ a0 a1 v3 v4 ((v5 + (-1))) v6 v7 (((v5 + (-1)) - 1)) q28))))) else (if x7 = 0 then jjX12_summedUp_112_38 μ a0 a1 v3 v4 v5 v6 v7 v5 x9.toInt64 else go_chk x9 9 <| jjX12_summedUp_112_38 μ a0 a1 v3 v4 v5 v6 v7 v5 (((μ.1 407 x9.toNatClampNeg) : Int32).toInt64))))
def fX12_summedUp (μ : PM) (a0 : Int32) (a1 : Int32) : Option (Int64 × PM) :=
  go_let ((((681 * a0) + 1) + (3 * a1))) fun x1 => go_let (((681 * a0) + 73)) fun x2 => go_chk (x1 + 1) 2724 <| go_let ((μ.1 404 ((x1 + 1) : Int32).toNatClampNeg)) fun x4 => ((lp (fun s => lbX12_summedUp_38 a0 a1 x1 x2 s.1 s.2.1 s.2.2.1 s.2.2.2) go_fuel (0, 0, x4, μ)).bind fun ρ41 => some ρ41)
def ggX12_summedUp_38 (w : go_Wd) (tx : Nat) (Q : Option Value → go_M → Prop) (a0 : Int32) (a1 : Int32) (v3 : Int32) (v4 : Int32) (s : Int32 × Int32 × Int32 × PM) : Prop := Go w 4 0 0 mtX12_summedUp 38 [(0, .ref 401), (3, .int v3), (4, .int v4), (5, .int s.1), (6, .int s.2.1), (7, .int s.2.2.1)] [] (go_mk tx s.2.2.2) (go_Z w Q)
def eeX12_summedUp_38 (w : go_Wd) (tx : Nat) (Q : Option Value → go_M → Prop) (a0 : Int32) (a1 : Int32) (v3 : Int32) (v4 : Int32) (y : Int64 × PM) : Prop := Q (some (.long y.1)) (go_mk tx y.2)
set_option maxRecDepth 20000 in
set_option maxHeartbeats 4000000 in
theorem jqX12_summedUp_212_38 (w : go_Wd) (tx : Nat) (Q : Option Value → go_M → Prop) (μ : PM) (a0 : Int32) (a1 : Int32) (v3 : Int32) (v4 : Int32) (v5 : Int32) (v6 : Int32) (v7 : Int32)  (s1 : Int32) (s2 : Int64)  (out : (Int32 × Int32 × Int32 × PM) ⊕ (Int64 × PM)) (h : jjX12_summedUp_212_38 μ a0 a1 v3 v4 v5 v6 v7 s1 s2 = some out) (hK : go_out (ggX12_summedUp_38 w tx Q a0 a1 v3 v4) (eeX12_summedUp_38 w tx Q a0 a1 v3 v4) out) : Go w 4 0 0 mtX12_summedUp 212 [(0, .ref 401), (3, .int v3), (4, .int v4), (5, .int v5), (6, .int v6), (7, .int v7)] [.long s2, .int s1, .ref 408] (go_mk tx μ) (go_Z w Q) := by
  unfold jjX12_summedUp_212_38 at h
  obtain ⟨hz13, h⟩ := go_chk_e h
  obtain ⟨μ12, hμ12, h⟩ := go_let_e h
  refine pp_lst dX12_summedUp_212 sh_408 hz13 hμ12 ?_
  refine go_goto 400 dX12_summedUp_213 (by decide) ?_
  refine go_iinc (v := (v7 + 1)) dX12_summedUp_400 5 rfl rfl (by decide) rfl ?_
  show Go w 4 0 0 mtX12_summedUp 403 [(7, .int (v7 + 1)), (0, .ref 401), (3, .int v3), (4, .int v4), (5, .int v5), (6, .int v6)] [] (go_mk tx μ12) (go_Z w Q)
  refine go_goto 38 dX12_summedUp_403 (by decide) ?_
  cases h
  have hK : Go w 4 0 0 mtX12_summedUp 38 [(0, .ref 401), (3, .int v3), (4, .int v4), (5, .int v5), (6, .int v6), (7, .int (v7 + 1))] [] (go_mk tx μ12) (go_Z w Q) := hK
  exact go_pick [1, 2, 3, 4, 5, 0] rfl hK
set_option maxRecDepth 20000 in
set_option maxHeartbeats 4000000 in
theorem jqX12_summedUp_172_38 (w : go_Wd) (tx : Nat) (Q : Option Value → go_M → Prop) (μ : PM) (a0 : Int32) (a1 : Int32) (v3 : Int32) (v4 : Int32) (v5 : Int32) (v6 : Int32) (v7 : Int32) (v8 : Int32)    (out : (Int32 × Int32 × Int32 × PM) ⊕ (Int64 × PM)) (h : jjX12_summedUp_172_38 μ a0 a1 v3 v4 v5 v6 v7 v8  = some out) (hK : go_out (ggX12_summedUp_38 w tx Q a0 a1 v3 v4) (eeX12_summedUp_38 w tx Q a0 a1 v3 v4) out) : Go w 4 0 0 mtX12_summedUp 172 [(0, .ref 401), (3, .int v3), (4, .int v4), (5, .int v5), (6, .int v6), (7, .int v7), (8, .int v8)] [] (go_mk tx μ) (go_Z w Q) := by
  unfold jjX12_summedUp_172_38 at h
  refine go_aload_n dX12_summedUp_172 0 rfl ?_
  refine pp_getR dX12_summedUp_173 ff_X12_35 (Or.inr ⟨_, rfl⟩) sh_401 rf_401_21 ?_
  refine go_iload dX12_summedUp_176 3 rfl ?_
  refine go_iconst (v := 1) dX12_summedUp_178 (by decide) ?_
  refine go_isub dX12_summedUp_179 ?_
  refine go_iload dX12_summedUp_180 6 rfl ?_
  refine go_iconst (v := 5) dX12_summedUp_182 (by decide) ?_
  refine go_icmp_ne 199 dX12_summedUp_183 (by decide) (fun hc => ?_) (fun hc => ?_)
  · have h := go_ifn hc h
    refine go_aload_n dX12_summedUp_199 0 rfl ?_
    refine go_aload_n dX12_summedUp_200 0 rfl ?_
    refine pp_getR dX12_summedUp_201 ff_X12_35 (Or.inr ⟨_, rfl⟩) sh_401 rf_401_21 ?_
    refine go_iload dX12_summedUp_204 3 rfl ?_
    refine go_iconst (v := 1) dX12_summedUp_206 (by decide) ?_
    refine go_isub dX12_summedUp_207 ?_
    obtain ⟨hz10, h⟩ := go_chk_e h
    refine pp_lld dX12_summedUp_208 sh_408 hz10 ?_
    obtain ⟨q11, hq11, h⟩ := go_bind h
    refine pp_callV (as := [.long (μ.2 408 ((v5 - 1) : Int32).toNatClampNeg)]) (st := [.int (v5 - 1), .ref 408]) (rv := (some (.long q11))) (μ1 := μ) (st1 := [.long q11, .int (v5 - 1), .ref 408]) dX12_summedUp_209 ll_X12_276 sh_401 (by decide) rfl (ctX12_iceOf  hq11) rfl (Nat.le_of_ble_eq_true rfl) (Nat.le_of_ble_eq_true rfl) (go_Z_up w _) rfl rfl ?_
    refine go_pick [0, 1, 2, 3, 4, 5] rfl ?_
    exact jqX12_summedUp_212_38 w tx Q μ a0 a1 v3 v4 v5 v6 v7  ((v5 - 1)) q11  _ h hK
  · have h := go_ifp hc h
    refine go_aload_n dX12_summedUp_186 0 rfl ?_
    refine pp_getR dX12_summedUp_187 ff_X12_35 (Or.inr ⟨_, rfl⟩) sh_401 rf_401_21 ?_
    refine go_iload dX12_summedUp_190 3 rfl ?_
    refine go_iconst (v := 1) dX12_summedUp_192 (by decide) ?_
    refine go_isub dX12_summedUp_193 ?_
    obtain ⟨hz14, h⟩ := go_chk_e h
    refine pp_lld dX12_summedUp_194 sh_408 hz14 ?_
    refine go_lneg dX12_summedUp_195 ?_
    refine go_goto 212 dX12_summedUp_196 (by decide) ?_
    refine go_pick [0, 1, 2, 3, 4, 5] rfl ?_
    exact jqX12_summedUp_212_38 w tx Q μ a0 a1 v3 v4 v5 v6 v7  ((v5 - 1)) ((-(μ.2 408 ((v5 - 1) : Int32).toNatClampNeg)))  _ h hK
set_option maxRecDepth 20000 in
set_option maxHeartbeats 4000000 in
theorem jqX12_summedUp_363_38 (w : go_Wd) (tx : Nat) (Q : Option Value → go_M → Prop) (μ : PM) (a0 : Int32) (a1 : Int32) (v3 : Int32) (v4 : Int32) (v5 : Int32) (v6 : Int32) (v7 : Int32)  (s1 : Int32) (s2 : Int32) (hs2 : s2 = 0 ∨ s2 = 1) (out : (Int32 × Int32 × Int32 × PM) ⊕ (Int64 × PM)) (h : jjX12_summedUp_363_38 μ a0 a1 v3 v4 v5 v6 v7 s1 s2 = some out) (hK : go_out (ggX12_summedUp_38 w tx Q a0 a1 v3 v4) (eeX12_summedUp_38 w tx Q a0 a1 v3 v4) out) : Go w 4 0 0 mtX12_summedUp 363 [(0, .ref 401), (3, .int v3), (4, .int v4), (5, .int v5), (6, .int v6), (7, .int v7)] [.int s2, .int s1, .ref 409] (go_mk tx μ) (go_Z w Q) := by
  unfold jjX12_summedUp_363_38 at h
  obtain ⟨hz21, h⟩ := go_chk_e h
  obtain ⟨μ20, hμ20, h⟩ := go_let_e h
  refine pp_zst dX12_summedUp_363 sh_409 hz21 hs2 hμ20 ?_
  refine go_goto 400 dX12_summedUp_364 (by decide) ?_
  refine go_iinc (v := (v7 + 1)) dX12_summedUp_400 5 rfl rfl (by decide) rfl ?_
  show Go w 4 0 0 mtX12_summedUp 403 [(7, .int (v7 + 1)), (0, .ref 401), (3, .int v3), (4, .int v4), (5, .int v5), (6, .int v6)] [] (go_mk tx μ20) (go_Z w Q)
  refine go_goto 38 dX12_summedUp_403 (by decide) ?_
  cases h
  have hK : Go w 4 0 0 mtX12_summedUp 38 [(0, .ref 401), (3, .int v3), (4, .int v4), (5, .int v5), (6, .int v6), (7, .int (v7 + 1))] [] (go_mk tx μ20) (go_Z w Q) := hK
  exact go_pick [1, 2, 3, 4, 5, 0] rfl hK
set_option maxRecDepth 20000 in
set_option maxHeartbeats 4000000 in
theorem jqX12_summedUp_283_38 (w : go_Wd) (tx : Nat) (Q : Option Value → go_M → Prop) (μ : PM) (a0 : Int32) (a1 : Int32) (v3 : Int32) (v4 : Int32) (v5 : Int32) (v6 : Int32) (v7 : Int32)  (s1 : Int32) (s2 : Int64)  (out : (Int32 × Int32 × Int32 × PM) ⊕ (Int64 × PM)) (h : jjX12_summedUp_283_38 μ a0 a1 v3 v4 v5 v6 v7 s1 s2 = some out) (hK : go_out (ggX12_summedUp_38 w tx Q a0 a1 v3 v4) (eeX12_summedUp_38 w tx Q a0 a1 v3 v4) out) : Go w 4 0 0 mtX12_summedUp 283 [(0, .ref 401), (3, .int v3), (4, .int v4), (5, .int v5), (6, .int v6), (7, .int v7)] [.long s2, .int s1, .ref 408] (go_mk tx μ) (go_Z w Q) := by
  unfold jjX12_summedUp_283_38 at h
  obtain ⟨hz30, h⟩ := go_chk_e h
  obtain ⟨μ29, hμ29, h⟩ := go_let_e h
  refine pp_lst dX12_summedUp_283 sh_408 hz30 hμ29 ?_
  refine go_goto 400 dX12_summedUp_284 (by decide) ?_
  refine go_iinc (v := (v7 + 1)) dX12_summedUp_400 5 rfl rfl (by decide) rfl ?_
  show Go w 4 0 0 mtX12_summedUp 403 [(7, .int (v7 + 1)), (0, .ref 401), (3, .int v3), (4, .int v4), (5, .int v5), (6, .int v6)] [] (go_mk tx μ29) (go_Z w Q)
  refine go_goto 38 dX12_summedUp_403 (by decide) ?_
  cases h
  have hK : Go w 4 0 0 mtX12_summedUp 38 [(0, .ref 401), (3, .int v3), (4, .int v4), (5, .int v5), (6, .int v6), (7, .int (v7 + 1))] [] (go_mk tx μ29) (go_Z w Q) := hK
  exact go_pick [1, 2, 3, 4, 5, 0] rfl hK
set_option maxRecDepth 20000 in
set_option maxHeartbeats 4000000 in
theorem jqX12_summedUp_112_38 (w : go_Wd) (tx : Nat) (Q : Option Value → go_M → Prop) (μ : PM) (a0 : Int32) (a1 : Int32) (v3 : Int32) (v4 : Int32) (v5 : Int32) (v6 : Int32) (v7 : Int32)  (s1 : Int32) (s2 : Int64)  (out : (Int32 × Int32 × Int32 × PM) ⊕ (Int64 × PM)) (h : jjX12_summedUp_112_38 μ a0 a1 v3 v4 v5 v6 v7 s1 s2 = some out) (hK : go_out (ggX12_summedUp_38 w tx Q a0 a1 v3 v4) (eeX12_summedUp_38 w tx Q a0 a1 v3 v4) out) : Go w 4 0 0 mtX12_summedUp 112 [(0, .ref 401), (3, .int v3), (4, .int v4), (5, .int v5), (6, .int v6), (7, .int v7)] [.long s2, .int s1, .ref 408] (go_mk tx μ) (go_Z w Q) := by
  unfold jjX12_summedUp_112_38 at h
  obtain ⟨hz40, h⟩ := go_chk_e h
  obtain ⟨μ39, hμ39, h⟩ := go_let_e h
  refine pp_lst dX12_summedUp_112 sh_408 hz40 hμ39 ?_
  refine go_iinc (v := (v5 + 1)) dX12_summedUp_113 3 rfl rfl (by decide) rfl ?_
  show Go w 4 0 0 mtX12_summedUp 116 [(5, .int (v5 + 1)), (0, .ref 401), (3, .int v3), (4, .int v4), (6, .int v6), (7, .int v7)] [] (go_mk tx μ39) (go_Z w Q)
  refine go_goto 400 dX12_summedUp_116 (by decide) ?_
  refine go_iinc (v := (v7 + 1)) dX12_summedUp_400 5 rfl rfl (by decide) rfl ?_
  show Go w 4 0 0 mtX12_summedUp 403 [(7, .int (v7 + 1)), (5, .int (v5 + 1)), (0, .ref 401), (3, .int v3), (4, .int v4), (6, .int v6)] [] (go_mk tx μ39) (go_Z w Q)
  refine go_goto 38 dX12_summedUp_403 (by decide) ?_
  cases h
  have hK : Go w 4 0 0 mtX12_summedUp 38 [(0, .ref 401), (3, .int v3), (4, .int v4), (5, .int (v5 + 1)), (6, .int v6), (7, .int (v7 + 1))] [] (go_mk tx μ39) (go_Z w Q) := hK
  exact go_pick [2, 3, 4, 1, 5, 0] rfl hK
set_option maxRecDepth 20000 in
set_option maxHeartbeats 4000000 in
theorem lqX12_summedUp_38 (w : go_Wd) (tx : Nat) (Q : Option Value → go_M → Prop) (a0 : Int32) (a1 : Int32) (v3 : Int32) (v4 : Int32)  (v5 : Int32) (v6 : Int32) (v7 : Int32) (μ : PM) (out : (Int32 × Int32 × Int32 × PM) ⊕ (Int64 × PM)) (h : lbX12_summedUp_38 a0 a1 v3 v4 v5 v6 v7 μ = some out) (hK : go_out (ggX12_summedUp_38 w tx Q a0 a1 v3 v4) (eeX12_summedUp_38 w tx Q a0 a1 v3 v4) out) : ggX12_summedUp_38 w tx Q a0 a1 v3 v4 (v5, v6, v7, μ) := by
  unfold lbX12_summedUp_38 at h
  show Go w 4 0 0 mtX12_summedUp 38 [(0, .ref 401), (3, .int v3), (4, .int v4), (5, .int v5), (6, .int v6), (7, .int v7)] [] (go_mk tx μ) (go_Z w Q)
  refine go_iload dX12_summedUp_38 5 rfl ?_
  refine go_aload_n dX12_summedUp_40 0 rfl ?_
  refine pp_getR dX12_summedUp_41 ff_X12_16 (Or.inr ⟨_, rfl⟩) sh_401 rf_401_2 ?_
  refine go_iload_n dX12_summedUp_44 1 rfl ?_
  refine go_iconst (v := 2) dX12_summedUp_45 (by decide) ?_
  refine go_iadd dX12_summedUp_46 ?_
  obtain ⟨hz5, h⟩ := go_chk_e h
  refine pp_ild dX12_summedUp_47 sh_404 hz5 ?_
  refine go_icmp_ge 406 dX12_summedUp_48 (by decide) (fun hc => ?_) (fun hc => ?_)
  · have h := go_ifp hc h
    refine go_aload_n dX12_summedUp_406 0 rfl ?_
    refine pp_getR dX12_summedUp_407 ff_X12_35 (Or.inr ⟨_, rfl⟩) sh_401 rf_401_21 ?_
    refine go_iconst (v := 0) dX12_summedUp_410 (by decide) ?_
    refine pp_lldc (q := 0) dX12_summedUp_411 sh_408 (by decide) ?_
    cases h
    exact go_lret dX12_summedUp_412 rfl hK
  · have h := go_ifn hc h
    refine go_aload_n dX12_summedUp_51 0 rfl ?_
    refine pp_getR dX12_summedUp_52 ff_X12_16 (Or.inr ⟨_, rfl⟩) sh_401 rf_401_2 ?_
    refine go_iload dX12_summedUp_55 2 rfl ?_
    refine go_iconst (v := 2) dX12_summedUp_57 (by decide) ?_
    refine go_iload dX12_summedUp_58 5 rfl ?_
    refine go_imul dX12_summedUp_60 ?_
    refine go_iadd dX12_summedUp_61 ?_
    obtain ⟨hz6, h⟩ := go_chk_e h
    refine pp_ild dX12_summedUp_62 sh_404 hz6 ?_
    obtain ⟨x7, hx7, h⟩ := go_let_e h
    refine go_top hx7 ?_
    refine go_istore dX12_summedUp_63 (by decide) rfl ?_
    show Go w 4 0 0 mtX12_summedUp 65 [(8, .int x7), (0, .ref 401), (3, .int v3), (4, .int v4), (5, .int v5), (6, .int v6), (7, .int v7)] [] (go_mk tx μ) (go_Z w Q)
    refine go_aload_n dX12_summedUp_65 1 rfl ?_
    refine pp_getR dX12_summedUp_66 ff_X12_16 (Or.inr ⟨_, rfl⟩) sh_401 rf_401_2 ?_
    refine go_iload dX12_summedUp_69 3 rfl ?_
    refine go_iconst (v := 2) dX12_summedUp_71 (by decide) ?_
    refine go_iload dX12_summedUp_72 6 rfl ?_
    refine go_imul dX12_summedUp_74 ?_
    refine go_iadd dX12_summedUp_75 ?_
    refine go_iconst (v := 1) dX12_summedUp_76 (by decide) ?_
    refine go_iadd dX12_summedUp_77 ?_
    obtain ⟨hz8, h⟩ := go_chk_e h
    refine pp_ild dX12_summedUp_78 sh_404 hz8 ?_
    obtain ⟨x9, hx9, h⟩ := go_let_e h
    refine go_top hx9 ?_
    refine go_istore dX12_summedUp_79 (by decide) rfl ?_
    show Go w 4 0 0 mtX12_summedUp 81 [(9, .int x9), (8, .int x7), (0, .ref 401), (3, .int v3), (4, .int v4), (5, .int v5), (6, .int v6), (7, .int v7)] [] (go_mk tx μ) (go_Z w Q)
    refine go_iload dX12_summedUp_81 1 rfl ?_
    refine go_iconst (v := 1) dX12_summedUp_83 (by decide) ?_
    refine go_icmp_gt 119 dX12_summedUp_84 (by decide) (fun hc => ?_) (fun hc => ?_)
    · have h := go_ifp hc h
      refine go_iload dX12_summedUp_119 1 rfl ?_
      refine go_iconst (v := 3) dX12_summedUp_121 (by decide) ?_
      refine go_icmp_ne 160 dX12_summedUp_122 (by decide) (fun hc => ?_) (fun hc => ?_)
      · have h := go_ifn hc h
        refine go_iload dX12_summedUp_160 1 rfl ?_
        refine go_iconst (v := 5) dX12_summedUp_162 (by decide) ?_
        refine go_icmp_eq 172 dX12_summedUp_163 (by decide) (fun hc => ?_) (fun hc => ?_)
        · have h := go_ifp hc h
          refine go_pick [2, 3, 4, 5, 6, 7, 1] rfl ?_
          exact jqX12_summedUp_172_38 w tx Q μ a0 a1 v3 v4 v5 v6 v7 x7    _ h hK
        · have h := go_ifn hc h
          refine go_iload dX12_summedUp_166 1 rfl ?_
          refine go_iconst (v := 2) dX12_summedUp_168 (by decide) ?_
          refine go_icmp_ne 216 dX12_summedUp_169 (by decide) (fun hc => ?_) (fun hc => ?_)
          · have h := go_ifn hc h
            refine go_iload dX12_summedUp_216 1 rfl ?_
            refine go_bipush (v := 10) dX12_summedUp_218 (by decide) ?_
            refine go_icmp_ge 287 dX12_summedUp_220 (by decide) (fun hc => ?_) (fun hc => ?_)
            · have h := go_ifp hc h
              refine go_iload dX12_summedUp_287 1 rfl ?_
              refine go_bipush (v := 20) dX12_summedUp_289 (by decide) ?_
              refine go_icmp_ge 331 dX12_summedUp_291 (by decide) (fun hc => ?_) (fun hc => ?_)
              · have h := go_ifp hc h
                refine go_iload dX12_summedUp_331 1 rfl ?_
                refine go_bipush (v := 20) dX12_summedUp_333 (by decide) ?_
                refine go_icmp_ne 367 dX12_summedUp_335 (by decide) (fun hc => ?_) (fun hc => ?_)
                · have h := go_ifn hc h
                  refine go_iinc (v := (v6 + (-1))) dX12_summedUp_367 6 rfl rfl (by decide) rfl ?_
                  show Go w 4 0 0 mtX12_summedUp 370 [(6, .int (v6 + (-1))), (9, .int x9), (8, .int x7), (0, .ref 401), (3, .int v3), (4, .int v4), (5, .int v5), (7, .int v7)] [] (go_mk tx μ) (go_Z w Q)
                  refine go_aload_n dX12_summedUp_370 3 rfl ?_
                  refine pp_getR dX12_summedUp_371 ff_X12_39 (Or.inr ⟨_, rfl⟩) sh_401 rf_401_22 ?_
                  refine go_iload dX12_summedUp_374 0 rfl ?_
                  refine go_iconst (v := 1) dX12_summedUp_376 (by decide) ?_
                  refine go_isub dX12_summedUp_377 ?_
                  refine go_iload dX12_summedUp_378 2 rfl ?_
                  refine go_aload_n dX12_summedUp_380 3 rfl ?_
                  refine pp_getR dX12_summedUp_381 ff_X12_39 (Or.inr ⟨_, rfl⟩) sh_401 rf_401_22 ?_
                  refine go_iload dX12_summedUp_384 0 rfl ?_
                  refine go_iconst (v := 1) dX12_summedUp_386 (by decide) ?_
                  refine go_isub dX12_summedUp_387 ?_
                  obtain ⟨hz15, h⟩ := go_chk_e h
                  refine pp_zld dX12_summedUp_388 sh_409 hz15 ?_
                  refine go_aload_n dX12_summedUp_389 3 rfl ?_
                  refine pp_getR dX12_summedUp_390 ff_X12_39 (Or.inr ⟨_, rfl⟩) sh_401 rf_401_22 ?_
                  refine go_iload dX12_summedUp_393 0 rfl ?_
                  obtain ⟨hz16, h⟩ := go_chk_e h
                  refine pp_zld dX12_summedUp_395 sh_409 hz16 ?_
                  refine pp_callS (as := [.int x7, .int (μ.1 409 (((v6 + (-1)) - 1) : Int32).toNatClampNeg), .int (μ.1 409 ((v6 + (-1)) : Int32).toNatClampNeg)]) (st := [.int ((v6 + (-1)) - 1), .ref 409]) (rv := (some (.int (fX12_joined x7 (μ.1 409 (((v6 + (-1)) - 1) : Int32).toNatClampNeg) (μ.1 409 ((v6 + (-1)) : Int32).toNatClampNeg))))) (μ1 := μ) (st1 := [.int (fX12_joined x7 (μ.1 409 (((v6 + (-1)) - 1) : Int32).toNatClampNeg) (μ.1 409 ((v6 + (-1)) : Int32).toNatClampNeg)), .int ((v6 + (-1)) - 1), .ref 409]) dX12_summedUp_396 ll_X12_291 (ctX12_joined  rfl) rfl (Nat.le_of_ble_eq_true rfl) (Nat.le_of_ble_eq_true rfl) (go_Z_up w _) rfl rfl ?_
                  obtain ⟨hz18, h⟩ := go_chk_e h
                  obtain ⟨μ17, hμ17, h⟩ := go_let_e h
                  refine pp_zst dX12_summedUp_399 sh_409 hz18 (bzX12_joined rfl) hμ17 ?_
                  refine go_iinc (v := (v7 + 1)) dX12_summedUp_400 7 rfl rfl (by decide) rfl ?_
                  show Go w 4 0 0 mtX12_summedUp 403 [(7, .int (v7 + 1)), (6, .int (v6 + (-1))), (9, .int x9), (8, .int x7), (0, .ref 401), (3, .int v3), (4, .int v4), (5, .int v5)] [] (go_mk tx μ17) (go_Z w Q)
                  refine go_goto 38 dX12_summedUp_403 (by decide) ?_
                  cases h
                  have hK : Go w 4 0 0 mtX12_summedUp 38 [(0, .ref 401), (3, .int v3), (4, .int v4), (5, .int v5), (6, .int (v6 + (-1))), (7, .int (v7 + 1))] [] (go_mk tx μ17) (go_Z w Q) := hK
                  exact go_pick [4, 5, 6, 7, 1, 0] rfl hK
                · have h := go_ifp hc h
                  refine go_aload_n dX12_summedUp_338 2 rfl ?_
                  refine pp_getR dX12_summedUp_339 ff_X12_39 (Or.inr ⟨_, rfl⟩) sh_401 rf_401_22 ?_
                  refine go_iload dX12_summedUp_342 6 rfl ?_
                  refine go_iconst (v := 1) dX12_summedUp_344 (by decide) ?_
                  refine go_isub dX12_summedUp_345 ?_
                  refine go_aload_n dX12_summedUp_346 2 rfl ?_
                  refine pp_getR dX12_summedUp_347 ff_X12_39 (Or.inr ⟨_, rfl⟩) sh_401 rf_401_22 ?_
                  refine go_iload dX12_summedUp_350 6 rfl ?_
                  refine go_iconst (v := 1) dX12_summedUp_352 (by decide) ?_
                  refine go_isub dX12_summedUp_353 ?_
                  obtain ⟨hz19, h⟩ := go_chk_e h
                  refine pp_zld dX12_summedUp_354 sh_409 hz19 ?_
                  refine go_if_ne 362 dX12_summedUp_355 (by decide) (fun hc => ?_) (fun hc => ?_)
                  · have h := go_ifn hc h
                    refine go_iconst (v := 0) dX12_summedUp_362 (by decide) ?_
                    refine go_pick [2, 3, 4, 5, 6, 7] rfl ?_
                    exact jqX12_summedUp_363_38 w tx Q μ a0 a1 v3 v4 v5 v6 v7  ((v6 - 1)) 0 (Or.inl rfl) _ h hK
                  · have h := go_ifp hc h
                    refine go_iconst (v := 1) dX12_summedUp_358 (by decide) ?_
                    refine go_goto 363 dX12_summedUp_359 (by decide) ?_
                    refine go_pick [2, 3, 4, 5, 6, 7] rfl ?_
                    exact jqX12_summedUp_363_38 w tx Q μ a0 a1 v3 v4 v5 v6 v7  ((v6 - 1)) 1 (Or.inr rfl) _ h hK
              · have h := go_ifn hc h
                refine go_iinc (v := (v5 + (-2))) dX12_summedUp_294 5 rfl rfl (by decide) rfl ?_
                show Go w 4 0 0 mtX12_summedUp 297 [(5, .int (v5 + (-2))), (9, .int x9), (8, .int x7), (0, .ref 401), (3, .int v3), (4, .int v4), (6, .int v6), (7, .int v7)] [] (go_mk tx μ) (go_Z w Q)
                refine go_aload_n dX12_summedUp_297 3 rfl ?_
                refine pp_getR dX12_summedUp_298 ff_X12_39 (Or.inr ⟨_, rfl⟩) sh_401 rf_401_22 ?_
                refine go_iload dX12_summedUp_301 6 rfl ?_
                refine go_iload dX12_summedUp_303 2 rfl ?_
                refine go_aload_n dX12_summedUp_305 3 rfl ?_
                refine pp_getR dX12_summedUp_306 ff_X12_35 (Or.inr ⟨_, rfl⟩) sh_401 rf_401_21 ?_
                refine go_iload dX12_summedUp_309 0 rfl ?_
                obtain ⟨hz22, h⟩ := go_chk_e h
                refine pp_lld dX12_summedUp_311 sh_408 hz22 ?_
                refine go_aload_n dX12_summedUp_312 3 rfl ?_
                refine pp_getR dX12_summedUp_313 ff_X12_35 (Or.inr ⟨_, rfl⟩) sh_401 rf_401_21 ?_
                refine go_iload dX12_summedUp_316 0 rfl ?_
                refine go_iconst (v := 1) dX12_summedUp_318 (by decide) ?_
                refine go_iadd dX12_summedUp_319 ?_
                obtain ⟨hz23, h⟩ := go_chk_e h
                refine pp_lld dX12_summedUp_320 sh_408 hz23 ?_
                refine pp_callS (as := [.int x7, .long (μ.2 408 ((v5 + (-2)) : Int32).toNatClampNeg), .long (μ.2 408 (((v5 + (-2)) + 1) : Int32).toNatClampNeg)]) (st := [.int v6, .ref 409]) (rv := (some (.int (fX12_isAsked x7 (μ.2 408 ((v5 + (-2)) : Int32).toNatClampNeg) (μ.2 408 (((v5 + (-2)) + 1) : Int32).toNatClampNeg))))) (μ1 := μ) (st1 := [.int (fX12_isAsked x7 (μ.2 408 ((v5 + (-2)) : Int32).toNatClampNeg) (μ.2 408 (((v5 + (-2)) + 1) : Int32).toNatClampNeg)), .int v6, .ref 409]) dX12_summedUp_321 ll_X12_287 (ctX12_isAsked  rfl) rfl (Nat.le_of_ble_eq_true rfl) (Nat.le_of_ble_eq_true rfl) (go_Z_up w _) rfl rfl ?_
                obtain ⟨hz25, h⟩ := go_chk_e h
                obtain ⟨μ24, hμ24, h⟩ := go_let_e h
                refine pp_zst dX12_summedUp_324 sh_409 hz25 (bzX12_isAsked rfl) hμ24 ?_
                refine go_iinc (v := (v6 + 1)) dX12_summedUp_325 6 rfl rfl (by decide) rfl ?_
                show Go w 4 0 0 mtX12_summedUp 328 [(6, .int (v6 + 1)), (5, .int (v5 + (-2))), (9, .int x9), (8, .int x7), (0, .ref 401), (3, .int v3), (4, .int v4), (7, .int v7)] [] (go_mk tx μ24) (go_Z w Q)
                refine go_goto 400 dX12_summedUp_328 (by decide) ?_
                refine go_iinc (v := (v7 + 1)) dX12_summedUp_400 7 rfl rfl (by decide) rfl ?_
                show Go w 4 0 0 mtX12_summedUp 403 [(7, .int (v7 + 1)), (6, .int (v6 + 1)), (5, .int (v5 + (-2))), (9, .int x9), (8, .int x7), (0, .ref 401), (3, .int v3), (4, .int v4)] [] (go_mk tx μ24) (go_Z w Q)
                refine go_goto 38 dX12_summedUp_403 (by decide) ?_
                cases h
                have hK : Go w 4 0 0 mtX12_summedUp 38 [(0, .ref 401), (3, .int v3), (4, .int v4), (5, .int (v5 + (-2))), (6, .int (v6 + 1)), (7, .int (v7 + 1))] [] (go_mk tx μ24) (go_Z w Q) := hK
                exact go_pick [5, 6, 7, 2, 1, 0] rfl hK
            · have h := go_ifn hc h
              refine go_iinc (v := (v5 + (-1))) dX12_summedUp_223 5 rfl rfl (by decide) rfl ?_
              show Go w 4 0 0 mtX12_summedUp 226 [(5, .int (v5 + (-1))), (9, .int x9), (8, .int x7), (0, .ref 401), (3, .int v3), (4, .int v4), (6, .int v6), (7, .int v7)] [] (go_mk tx μ) (go_Z w Q)
              refine go_aload_n dX12_summedUp_226 3 rfl ?_
              refine pp_getR dX12_summedUp_227 ff_X12_35 (Or.inr ⟨_, rfl⟩) sh_401 rf_401_21 ?_
              refine go_iload dX12_summedUp_230 0 rfl ?_
              refine go_iconst (v := 1) dX12_summedUp_232 (by decide) ?_
              refine go_isub dX12_summedUp_233 ?_
              refine go_iload dX12_summedUp_234 2 rfl ?_
              refine go_iconst (v := 4) dX12_summedUp_236 (by decide) ?_
              refine go_icmp_ne 262 dX12_summedUp_237 (by decide) (fun hc => ?_) (fun hc => ?_)
              · have h := go_ifn hc h
                refine go_iload dX12_summedUp_262 2 rfl ?_
                refine go_aload_n dX12_summedUp_264 3 rfl ?_
                refine pp_getR dX12_summedUp_265 ff_X12_35 (Or.inr ⟨_, rfl⟩) sh_401 rf_401_21 ?_
                refine go_iload dX12_summedUp_268 0 rfl ?_
                refine go_iconst (v := 1) dX12_summedUp_270 (by decide) ?_
                refine go_isub dX12_summedUp_271 ?_
                obtain ⟨hz26, h⟩ := go_chk_e h
                refine pp_lld dX12_summedUp_272 sh_408 hz26 ?_
                refine go_aload_n dX12_summedUp_273 3 rfl ?_
                refine pp_getR dX12_summedUp_274 ff_X12_35 (Or.inr ⟨_, rfl⟩) sh_401 rf_401_21 ?_
                refine go_iload dX12_summedUp_277 0 rfl ?_
                obtain ⟨hz27, h⟩ := go_chk_e h
                refine pp_lld dX12_summedUp_279 sh_408 hz27 ?_
                obtain ⟨q28, hq28, h⟩ := go_bind h
                refine pp_callS (as := [.int x7, .long (μ.2 408 (((v5 + (-1)) - 1) : Int32).toNatClampNeg), .long (μ.2 408 ((v5 + (-1)) : Int32).toNatClampNeg)]) (st := [.int ((v5 + (-1)) - 1), .ref 408]) (rv := (some (.long q28))) (μ1 := μ) (st1 := [.long q28, .int ((v5 + (-1)) - 1), .ref 408]) dX12_summedUp_280 ll_X12_283 (ctX12_two  hq28) rfl (Nat.le_of_ble_eq_true rfl) (Nat.le_of_ble_eq_true rfl) (go_Z_up w _) rfl rfl ?_
                refine go_pick [3, 4, 5, 0, 6, 7] rfl ?_
                exact jqX12_summedUp_283_38 w tx Q μ a0 a1 v3 v4 ((v5 + (-1))) v6 v7  (((v5 + (-1)) - 1)) q28  _ h hK
              · have h := go_ifp hc h
                refine go_aload_n dX12_summedUp_240 3 rfl ?_
                refine pp_getR dX12_summedUp_241 ff_X12_35 (Or.inr ⟨_, rfl⟩) sh_401 rf_401_21 ?_
                refine go_iload dX12_summedUp_244 0 rfl ?_
                refine go_iconst (v := 1) dX12_summedUp_246 (by decide) ?_
                refine go_isub dX12_summedUp_247 ?_
                obtain ⟨hz31, h⟩ := go_chk_e h
                refine pp_lld dX12_summedUp_248 sh_408 hz31 ?_
                refine go_aload_n dX12_summedUp_249 3 rfl ?_
                refine pp_getR dX12_summedUp_250 ff_X12_35 (Or.inr ⟨_, rfl⟩) sh_401 rf_401_21 ?_
                refine go_iload dX12_summedUp_253 0 rfl ?_
                obtain ⟨hz32, h⟩ := go_chk_e h
                refine pp_lld dX12_summedUp_255 sh_408 hz32 ?_
                obtain ⟨q33, hq33, h⟩ := go_bind h
                refine pp_callS (as := [.long (μ.2 408 (((v5 + (-1)) - 1) : Int32).toNatClampNeg), .long (μ.2 408 ((v5 + (-1)) : Int32).toNatClampNeg)]) (st := [.int ((v5 + (-1)) - 1), .ref 408]) (rv := (some (.long q33))) (μ1 := μ) (st1 := [.long q33, .int ((v5 + (-1)) - 1), .ref 408]) dX12_summedUp_256 ll_X12_279 (ctX12_digitOf  hq33) rfl (Nat.le_of_ble_eq_true rfl) (Nat.le_of_ble_eq_true rfl) (go_Z_up w _) rfl rfl ?_
                refine go_goto 283 dX12_summedUp_259 (by decide) ?_
                refine go_pick [3, 4, 5, 0, 6, 7] rfl ?_
                exact jqX12_summedUp_283_38 w tx Q μ a0 a1 v3 v4 ((v5 + (-1))) v6 v7  (((v5 + (-1)) - 1)) q33  _ h hK
          · have h := go_ifp hc h
            refine go_pick [2, 3, 4, 5, 6, 7, 1] rfl ?_
            exact jqX12_summedUp_172_38 w tx Q μ a0 a1 v3 v4 v5 v6 v7 x7    _ h hK
      · have h := go_ifp hc h
        refine go_iinc (v := (v5 + (-1))) dX12_summedUp_125 5 rfl rfl (by decide) rfl ?_
        show Go w 4 0 0 mtX12_summedUp 128 [(5, .int (v5 + (-1))), (9, .int x9), (8, .int x7), (0, .ref 401), (3, .int v3), (4, .int v4), (6, .int v6), (7, .int v7)] [] (go_mk tx μ) (go_Z w Q)
        refine go_iinc (v := (v6 + (-1))) dX12_summedUp_128 6 rfl rfl (by decide) rfl ?_
        show Go w 4 0 0 mtX12_summedUp 131 [(6, .int (v6 + (-1))), (5, .int (v5 + (-1))), (9, .int x9), (8, .int x7), (0, .ref 401), (3, .int v3), (4, .int v4), (7, .int v7)] [] (go_mk tx μ) (go_Z w Q)
        refine go_aload_n dX12_summedUp_131 4 rfl ?_
        refine pp_getR dX12_summedUp_132 ff_X12_39 (Or.inr ⟨_, rfl⟩) sh_401 rf_401_22 ?_
        refine go_iload dX12_summedUp_135 0 rfl ?_
        obtain ⟨hz34, h⟩ := go_chk_e h
        refine pp_zld dX12_summedUp_137 sh_409 hz34 ?_
        refine go_if_ne 400 dX12_summedUp_138 (by decide) (fun hc => ?_) (fun hc => ?_)
        · have h := go_ifn hc h
          refine go_iinc (v := (v7 + 1)) dX12_summedUp_400 7 rfl rfl (by decide) rfl ?_
          show Go w 4 0 0 mtX12_summedUp 403 [(7, .int (v7 + 1)), (6, .int (v6 + (-1))), (5, .int (v5 + (-1))), (9, .int x9), (8, .int x7), (0, .ref 401), (3, .int v3), (4, .int v4)] [] (go_mk tx μ) (go_Z w Q)
          refine go_goto 38 dX12_summedUp_403 (by decide) ?_
          cases h
          have hK : Go w 4 0 0 mtX12_summedUp 38 [(0, .ref 401), (3, .int v3), (4, .int v4), (5, .int (v5 + (-1))), (6, .int (v6 + (-1))), (7, .int (v7 + 1))] [] (go_mk tx μ) (go_Z w Q) := hK
          exact go_pick [5, 6, 7, 2, 1, 0] rfl hK
        · have h := go_ifp hc h
          refine go_aload_n dX12_summedUp_141 4 rfl ?_
          refine pp_getR dX12_summedUp_142 ff_X12_35 (Or.inr ⟨_, rfl⟩) sh_401 rf_401_21 ?_
          refine go_iload dX12_summedUp_145 1 rfl ?_
          refine go_iconst (v := 1) dX12_summedUp_147 (by decide) ?_
          refine go_isub dX12_summedUp_148 ?_
          refine go_aload_n dX12_summedUp_149 4 rfl ?_
          refine pp_getR dX12_summedUp_150 ff_X12_35 (Or.inr ⟨_, rfl⟩) sh_401 rf_401_21 ?_
          refine go_iload dX12_summedUp_153 1 rfl ?_
          obtain ⟨hz35, h⟩ := go_chk_e h
          refine pp_lld dX12_summedUp_155 sh_408 hz35 ?_
          obtain ⟨hz37, h⟩ := go_chk_e h
          obtain ⟨μ36, hμ36, h⟩ := go_let_e h
          refine pp_lst dX12_summedUp_156 sh_408 hz37 hμ36 ?_
          refine go_goto 400 dX12_summedUp_157 (by decide) ?_
          refine go_iinc (v := (v7 + 1)) dX12_summedUp_400 7 rfl rfl (by decide) rfl ?_
          show Go w 4 0 0 mtX12_summedUp 403 [(7, .int (v7 + 1)), (6, .int (v6 + (-1))), (5, .int (v5 + (-1))), (9, .int x9), (8, .int x7), (0, .ref 401), (3, .int v3), (4, .int v4)] [] (go_mk tx μ36) (go_Z w Q)
          refine go_goto 38 dX12_summedUp_403 (by decide) ?_
          cases h
          have hK : Go w 4 0 0 mtX12_summedUp 38 [(0, .ref 401), (3, .int v3), (4, .int v4), (5, .int (v5 + (-1))), (6, .int (v6 + (-1))), (7, .int (v7 + 1))] [] (go_mk tx μ36) (go_Z w Q) := hK
          exact go_pick [5, 6, 7, 2, 1, 0] rfl hK
    · have h := go_ifn hc h
      refine go_aload_n dX12_summedUp_87 2 rfl ?_
      refine pp_getR dX12_summedUp_88 ff_X12_35 (Or.inr ⟨_, rfl⟩) sh_401 rf_401_21 ?_
      refine go_iload dX12_summedUp_91 5 rfl ?_
      refine go_iload dX12_summedUp_93 1 rfl ?_
      refine go_if_ne 104 dX12_summedUp_95 (by decide) (fun hc => ?_) (fun hc => ?_)
      · have h := go_ifn hc h
        refine go_aload_n dX12_summedUp_104 2 rfl ?_
        refine pp_getR dX12_summedUp_105 ff_X12_32 (Or.inr ⟨_, rfl⟩) sh_401 rf_401_20 ?_
        refine go_iload dX12_summedUp_108 0 rfl ?_
        obtain ⟨hz38, h⟩ := go_chk_e h
        refine pp_ild dX12_summedUp_110 sh_407 hz38 ?_
        refine go_i2l dX12_summedUp_111 ?_
        refine go_pick [2, 3, 4, 5, 6, 7] rfl ?_
        exact jqX12_summedUp_112_38 w tx Q μ a0 a1 v3 v4 v5 v6 v7  v5 (((μ.1 407 x9.toNatClampNeg) : Int32).toInt64)  _ h hK
      · have h := go_ifp hc h
        refine go_iload dX12_summedUp_98 0 rfl ?_
        refine go_i2l dX12_summedUp_100 ?_
        refine go_goto 112 dX12_summedUp_101 (by decide) ?_
        refine go_pick [2, 3, 4, 5, 6, 7] rfl ?_
        exact jqX12_summedUp_112_38 w tx Q μ a0 a1 v3 v4 v5 v6 v7  v5 x9.toInt64  _ h hK
set_option maxRecDepth 20000 in
set_option maxHeartbeats 4000000 in
theorem cmX12_summedUp (w : go_Wd) (tx : Nat) (Q : Option Value → go_M → Prop) (μ : PM) (a0 : Int32) (a1 : Int32) (out : Int64 × PM) (h : fX12_summedUp μ a0 a1 = some out) (hK : Q (some (.long out.1)) (go_mk tx out.2)) : Go w 4 0 0 mtX12_summedUp 0 [(0, .ref 401), (1, .int a0), (2, .int a1)] [] (go_mk tx μ) (go_Z w Q) := by
  unfold fX12_summedUp at h
  refine go_sipush (v := 681) dX12_summedUp_0 (by decide) ?_
  refine go_iload_n dX12_summedUp_3 1 rfl ?_
  refine go_imul dX12_summedUp_4 ?_
  refine go_iconst (v := 1) dX12_summedUp_5 (by decide) ?_
  refine go_iadd dX12_summedUp_6 ?_
  refine go_iconst (v := 3) dX12_summedUp_7 (by decide) ?_
  refine go_iload_n dX12_summedUp_8 2 rfl ?_
  refine go_imul dX12_summedUp_9 ?_
  refine go_iadd dX12_summedUp_10 ?_
  obtain ⟨x1, hx1, h⟩ := go_let_e h
  refine go_top hx1 ?_
  refine go_istore_n dX12_summedUp_11 (by decide) rfl ?_
  show Go w 4 0 0 mtX12_summedUp 12 [(3, .int x1), (0, .ref 401), (1, .int a0), (2, .int a1)] [] (go_mk tx μ) (go_Z w Q)
  refine go_sipush (v := 681) dX12_summedUp_12 (by decide) ?_
  refine go_iload_n dX12_summedUp_15 2 rfl ?_
  refine go_imul dX12_summedUp_16 ?_
  refine go_bipush (v := 73) dX12_summedUp_17 (by decide) ?_
  refine go_iadd dX12_summedUp_19 ?_
  obtain ⟨x2, hx2, h⟩ := go_let_e h
  refine go_top hx2 ?_
  refine go_istore dX12_summedUp_20 (by decide) rfl ?_
  show Go w 4 0 0 mtX12_summedUp 22 [(4, .int x2), (3, .int x1), (0, .ref 401), (1, .int a0), (2, .int a1)] [] (go_mk tx μ) (go_Z w Q)
  refine go_iconst (v := 0) dX12_summedUp_22 (by decide) ?_
  refine go_istore dX12_summedUp_23 (by decide) rfl ?_
  show Go w 4 0 0 mtX12_summedUp 25 [(5, .int 0), (4, .int x2), (3, .int x1), (0, .ref 401), (1, .int a0), (2, .int a1)] [] (go_mk tx μ) (go_Z w Q)
  refine go_iconst (v := 0) dX12_summedUp_25 (by decide) ?_
  refine go_istore dX12_summedUp_26 (by decide) rfl ?_
  show Go w 4 0 0 mtX12_summedUp 28 [(6, .int 0), (5, .int 0), (4, .int x2), (3, .int x1), (0, .ref 401), (1, .int a0), (2, .int a1)] [] (go_mk tx μ) (go_Z w Q)
  refine go_aload_n dX12_summedUp_28 4 rfl ?_
  refine pp_getR dX12_summedUp_29 ff_X12_16 (Or.inr ⟨_, rfl⟩) sh_401 rf_401_2 ?_
  refine go_iload_n dX12_summedUp_32 3 rfl ?_
  refine go_iconst (v := 1) dX12_summedUp_33 (by decide) ?_
  refine go_iadd dX12_summedUp_34 ?_
  obtain ⟨hz3, h⟩ := go_chk_e h
  refine pp_ild dX12_summedUp_35 sh_404 hz3 ?_
  obtain ⟨x4, hx4, h⟩ := go_let_e h
  refine go_top hx4 ?_
  refine go_istore dX12_summedUp_36 (by decide) rfl ?_
  show Go w 4 0 0 mtX12_summedUp 38 [(7, .int x4), (6, .int 0), (5, .int 0), (4, .int x2), (3, .int x1), (0, .ref 401), (1, .int a0), (2, .int a1)] [] (go_mk tx μ) (go_Z w Q)
  obtain ⟨ρ41, hρ41, h⟩ := go_bind h
  refine go_pick [5, 4, 3, 2, 1, 0] rfl ?_
  refine go_lp (G := ggX12_summedUp_38 w tx Q a0 a1 x1 x2) (E := eeX12_summedUp_38 w tx Q a0 a1 x1 x2) (fun s out h hK => lqX12_summedUp_38 w tx Q a0 a1 x1 x2  s.1 s.2.1 s.2.2.1 s.2.2.2 out h hK) go_fuel (0, 0, x4, μ) ρ41 hρ41 ?_
  cases h
  exact hK
theorem ctX12_summedUp {w : go_Wd} {tx : Nat} {μ : PM} {a0 : Int32} {a1 : Int32} {r : Int64} {μ1 : PM}  (h : fX12_summedUp μ a0 a1 = some (r, μ1)) : Ct w 4 0 0 mtX12_summedUp [.ref 401, .int a0, .int a1] (go_mk tx μ) (fun r' M' => r' = some (.long r) ∧ M' = go_mk tx μ1) :=
  go_entry rfl (by decide) (Nat.le_of_ble_eq_true rfl) (cmX12_summedUp w tx _ μ a0 a1 _ h ⟨rfl, rfl⟩)