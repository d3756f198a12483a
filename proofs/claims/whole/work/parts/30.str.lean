/-! ===== the reader's text is set; calls on the texts outside; returns of bytes and chars ===== -/
theorem go_RF_set (tx q : Nat) : va_up (go_RF tx) 372 (va_up (go_RF tx 372) 4 (some q)) = go_RF q := by
  funext c j
  unfold va_up
  by_cases hc : c = 372
  · subst hc
    rw [if_pos rfl]
    by_cases hj : j = 4
    · subst hj
      rw [if_pos rfl]
      exact go_RF_tx.symm
    · rw [if_neg hj]
      unfold go_RF
      rw [if_neg (fun z => hj z.2), if_neg (fun z => hj z.2)]
  · rw [if_neg hc]
    unfold go_RF
    rw [if_neg (fun z => hc z.1), if_neg (fun z => hc z.1)]
theorem go_mk_tx (tx q : Nat) (μ : PM) : go_wr (go_mk tx μ) 372 4 (some q) = go_mk q μ := by
  unfold go_wr go_mk
  rw [go_RF_set]
section GoStr
variable {w : go_Wd} {d bc bs tx : Nat} {m : go_Mt} {pc : Nat} {lv : List (Nat × Value)} {st : List Value} {μ μ1 : PM} {Z : go_ZT}
theorem pp_putTx {n idx q : Nat} {ty : FieldType} (hd : decode m.2.2.1 pc = .ok (.putfield idx, 3)) (hF : go_F m.1 idx 6 4 ty false) (hty : (∃ x, ty = .object x) ∨ ∃ x, ty = .array x) (hk : go_SH[372]? = some (6, n)) (k : Go w d bc bs m (pc + 3) lv st (go_mk q μ) Z) : Go w d bc bs m pc lv (.ref q :: .ref 372 :: st) (go_mk tx μ) Z := by
  refine go_putR hd hF hty hk ?_
  rw [go_mk_tx]
  exact k
variable {M : go_M} {Q : Option Value → go_M → Prop}
theorem go_nret {v : Int32} {ty : FieldType} (hd : decode m.2.2.1 pc = .ok (.ireturn, 1)) (hr : m.2.2.2.2 = some ty) (hv : narrow ty (.int v) = .int v) (hq : Q (some (.int v)) M) : Go w d bc bs m pc lv [.int v] M (go_Z w Q) := by
  intro p e R s m' args below meth cd H ls locs cells slots ad C h1 h2 hR hS hl
  have hlocks : meth.locks = false := C.2.2.2.2.2.2.1
  refine W.widen (k := cells + bc) (n := slots + bs) (Nat.le_add_right _ _) (Nat.le_add_right _ _) ?_
  exact W.zret (v := v) C.1 C.2.1 (C.2.2.2.2.2.1.trans hr) hv (fun t ht _ => ⟨some (.int v), M, ad, rfl, List.prefix_rfl, by rw [ht]; exact hR, hq, hS.F ht⟩) hS.2.2 hd
variable {d2 bc2 bs2 idx n : Nat} {m2 : go_Mt} {as : List Value} {Q2 : Option Value → go_M → Prop}
theorem go_callVX (i : Nat) (hi : i < 2) (hd : decode m.2.2.1 pc = .ok (.invokevirtual idx, 3)) (hL : go_LV m.1 idx m2 n) (hcl : m2.1 = "java/lang/String") (hc : Ct w d2 bc2 bs2 m2 (.ref (1000003 + i) :: as) M Q2) (hn : as.length = n) (hdd : d2 + 1 ≤ d) (hst : (st.map fun v => v.category).sum ≤ 8) (hZ : go_up Z) {st0 : List Value} (hs0 : as.reverse ++ .ref (1000003 + i) :: st = st0)
    (hok : ∀ r M', Q2 r M' → go_ok M M' lv st) (k : ∀ r M', Q2 r M' → Go w d bc bs m (pc + 3) lv (r.toList ++ st) M' Z) : Go w d (bc2 + bc) (bs2 + bs) m pc lv st0 M Z := by
  intro p e R s m' args below meth c H ls locs cells slots ad C h1 h2 hR hS hl
  obtain ⟨⟨L1, L2, L3, L4, L5, L6⟩, L7, L8⟩ := hL
  have hts := C.2.2.2.2.1
  have hI := C.2.2.2.2.2.2.2.2.1
  have hprS := go_prS (as := .ref (1000003 + i) :: as) hI hR hS
  have hstr := hI.2.2.2.2.2.2.2.2.2.2.2.2.2.1
  have e1 : go_ra w ad (1000003 + i) = w.2.2.2.2.1 (3 + i) := go_ra_x (by omega)
  have hrv := vk_recv (i := i) hstr hi hS
  refine go_behind (a2 := ((Value.ref (1000003 + i) :: as).map (go_tv w ad)).toArray) (Q2 := Q2) hZ C h1 h2 hR hS hl ?_ hok k
  refine va_runV (Ts := go_all) (ws := go_words m2) (rm := go_room d2 bc2 bs2) (own := m.1) (C := m2.1) (y := m2.2.1) (bytes := m2.2.2.1) (maxL := m2.2.2.2.1) (ret := m2.2.2.2.2) (n := n) (cc := m.2.2.1) (nL := m.2.2.2.1) (index := idx) (b := go_ra w ad (1000003 + i)) (As := as.map (go_tv w ad)) ⟨C.1, C.2.1, C.2.2.1, C.2.2.2.1, hts⟩ (hc ad)
    ⟨callB_of n hts (go_goodIn L3) rfl rfl rfl (by rw [L4]; exact hts _ L2) (hts _ L1) L5 ⟨by show d2 + 1 ≤ _; exact Nat.le_trans hdd C.2.2.2.2.2.2.2.2.2.1, by have := C.2.2.2.2.2.2.2.2.2.2; show 8 + (_ + 11) + d2 * 50 ≤ _; omega⟩, hts _ L7, hts _ L8⟩
    ⟨hprS.1, by rw [e1, hcl]; exact hrv, hprS.2⟩ rfl (by rw [List.length_map]; exact hn) hl.1 (by rw [← hs0, List.map_append, List.map_reverse]; rfl) (lv_room (by rw [List.map_map, show ((fun v : Value => v.category) ∘ go_tv w ad) = (fun v : Value => v.category) from funext fun v => go_tv_cat w ad v]; exact hst)) hd ⟨by omega, by omega⟩
variable {rv : Option Value} {st0 st1 : List Value}
theorem pp_callVX (i : Nat) (hi : i < 2) (hd : decode m.2.2.1 pc = .ok (.invokevirtual idx, 3)) (hL : go_LV m.1 idx m2 n) (hcl : m2.1 = "java/lang/String") (hc : Ct w d2 0 0 m2 (.ref (1000003 + i) :: as) (go_mk tx μ) (fun r M' => r = rv ∧ M' = go_mk tx μ1)) (hn : as.length = n) (hdd : d2 + 1 ≤ d) (hst : (st.map fun v => v.category).sum ≤ 8) (hZ : go_up Z) (hs0 : as.reverse ++ .ref (1000003 + i) :: st = st0) (hs1 : rv.toList ++ st = st1) (k : Go w d bc bs m (pc + 3) lv st1 (go_mk tx μ1) Z) : Go w d bc bs m pc lv st0 (go_mk tx μ) Z := by
  have := go_callVX (bc := bc) (bs := bs) (lv := lv) i hi hd hL hcl hc hn hdd hst hZ hs0 (fun r M' h => Or.inl (by rw [h.2]; rfl)) (fun r M' h => by rw [h.1, h.2, hs1]; exact k)
  rw [Nat.zero_add, Nat.zero_add] at this
  exact this
end GoStr
