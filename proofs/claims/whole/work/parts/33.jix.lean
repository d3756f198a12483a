/-! ===== String.indexOf on SIGNS ===== -/
theorem go_i2b {w : go_Wd} {d bc bs : Nat} {m : go_Mt} {pc : Nat} {lv : List (Nat × Value)} {st : List Value} {M : go_M} {Z : go_ZT} {x : Int32} (hd : decode m.2.2.1 pc = .ok (.i2b, 1)) (k : Go w d bc bs m (pc + 1) lv (.int x.toInt8.toInt32 :: st) M Z) : Go w d bc bs m pc lv (.int x :: st) M Z := by
  intro p e R s m' args below meth c H ls locs cells slots ad C h1 h2 hR hS hl
  exact lv_i2b C.1 C.2.1 hd rfl (k p e R s m' args below meth c H ls locs cells slots ad C h1 h2 hR hS hl)
def go_ixf (b : Int32) : Nat → Nat → Int32
  | 0, _ => -1
  | n + 1, k => if go_signs93.getD k 0 = b then nI k else go_ixf b n (k + 1)
theorem ctJ1_indexOfChar {w : go_Wd} {tx : Nat} {μ : PM} {c : Int32} : Ct w 0 0 0 mtJ1_indexOfChar_4cfef [.ref 1000006, .int c, .int 0, .int 11] (go_mk tx μ) (fun r M => r = some (.int (go_ixf c.toInt8.toInt32 11 0)) ∧ M = go_mk tx μ) := by
  have key : ∀ (n k : Nat), n + k = 11 → ∀ (Q : Option Value → go_M → Prop), Q (some (.int (go_ixf c.toInt8.toInt32 n k))) (go_mk tx μ) → Go w 0 0 0 mtJ1_indexOfChar_4cfef 7 [(5, .int (nI k)), (4, .int c.toInt8.toInt32), (0, .ref 1000006), (1, .int c), (2, .int 0), (3, .int 11)] [] (go_mk tx μ) (go_Z w Q) := by
    intro n
    induction n with
    | zero =>
      intro k hk Q hQ
      obtain rfl : k = 11 := by omega
      refine go_iload dJ1_indexOfChar_4cfef_7 0 rfl ?_
      refine go_iload_n dJ1_indexOfChar_4cfef_9 5 rfl ?_
      refine go_icmp_ge 31 dJ1_indexOfChar_4cfef_10 (by decide) (fun _ => ?_) (fun hc => absurd (by decide) hc)
      refine go_iconst (v := -1) dJ1_indexOfChar_4cfef_31 (by decide) ?_
      exact go_iret dJ1_indexOfChar_4cfef_32 rfl hQ
    | succ n ih =>
      intro k hk Q hQ
      have hk11 : k < 11 := by omega
      refine go_iload dJ1_indexOfChar_4cfef_7 0 rfl ?_
      refine go_iload_n dJ1_indexOfChar_4cfef_9 5 rfl ?_
      refine go_icmp_ge 31 dJ1_indexOfChar_4cfef_10 (by decide) (fun hc => absurd hc (nI_ge (b := 11) hk11 (by decide))) (fun _ => ?_)
      refine go_aload_n dJ1_indexOfChar_4cfef_13 2 rfl ?_
      refine go_iload dJ1_indexOfChar_4cfef_14 0 rfl ?_
      refine go_sB 1 (by decide) (x := go_signs93.getD k 0) dJ1_indexOfChar_4cfef_16 (vp_in_nI hk11 (by decide)) (by rw [nI_clamp (by omega)]; rfl) ?_
      refine go_iload dJ1_indexOfChar_4cfef_17 1 rfl ?_
      refine go_icmp_ne 25 dJ1_indexOfChar_4cfef_19 (by decide) (fun hc => ?_) (fun hc => ?_)
      · refine go_iinc (v := nI (k + 1)) dJ1_indexOfChar_4cfef_25 0 rfl (nI_1 k) (by decide) rfl ?_
        refine go_goto 7 dJ1_indexOfChar_4cfef_28 (by decide) ?_
        refine ih (k + 1) (by omega) Q ?_
        rw [go_ixf, if_neg hc] at hQ
        exact hQ
      · refine go_iload dJ1_indexOfChar_4cfef_22 0 rfl ?_
        rw [go_ixf, if_pos hc] at hQ
        exact go_iret dJ1_indexOfChar_4cfef_24 rfl hQ
  refine go_entry rfl (by decide) (Nat.le_of_ble_eq_true rfl) ?_
  show Go w 0 0 0 mtJ1_indexOfChar_4cfef 0 [(0, .ref 1000006), (1, .int c), (2, .int 0), (3, .int 11)] [] (go_mk tx μ) (go_Z w _)
  refine go_iload_n dJ1_indexOfChar_4cfef_0 1 rfl ?_
  refine go_i2b dJ1_indexOfChar_4cfef_1 ?_
  refine go_istore dJ1_indexOfChar_4cfef_2 (by decide) rfl ?_
  refine go_iload_n dJ1_indexOfChar_4cfef_4 3 rfl ?_
  refine go_istore dJ1_indexOfChar_4cfef_5 (by decide) rfl ?_
  exact key 11 0 rfl _ ⟨rfl, rfl⟩
