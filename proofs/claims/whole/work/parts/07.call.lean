/-! ===== returns and calls ===== -/
theorem go_pre {ad ad' : List Nat} (h : ad <+: ad') (hl : ad'.length = ad.length) : ad' = ad := by
  obtain ⟨t, rfl⟩ := h
  rw [List.length_append] at hl
  have : t = [] := List.eq_nil_of_length_eq_zero (by omega)
  rw [this, List.append_nil]
section GoRet
variable {w : go_Wd} {d bc bs : Nat} {μ : go_Mt} {pc : Nat} {lv : List (Nat × Value)} {st : List Value} {M : go_M} {Q : Option Value → go_M → Prop}
theorem go_iret {v : Int32} (hd : decode μ.2.2.1 pc = .ok (.ireturn, 1)) (hr : μ.2.2.2.2 = some .int) (hq : Q (some (.int v)) M) : Go w d bc bs μ pc lv [.int v] M (go_Z w Q) := by
  intro p e R s m args below meth cd H ls locs cells slots ad C h1 h2 hR hS hl
  have hlocks : meth.locks = false := C.2.2.2.2.2.2.1
  refine W.widen (k := cells + bc) (n := slots + bs) (Nat.le_add_right _ _) (Nat.le_add_right _ _) ?_
  exact W.iret (v := v) C.1 C.2.1 (C.2.2.2.2.2.1.trans hr) (fun t ht _ => ⟨some (.int v), M, ad, rfl, List.prefix_rfl, by rw [ht]; exact hR, hq, hS.F ht⟩) hS.2.2 hd
theorem go_zret {v : Int32} (hd : decode μ.2.2.1 pc = .ok (.ireturn, 1)) (hr : μ.2.2.2.2 = some .boolean) (hv : v = 0 ∨ v = 1) (hq : Q (some (.int v)) M) : Go w d bc bs μ pc lv [.int v] M (go_Z w Q) := by
  intro p e R s m args below meth cd H ls locs cells slots ad C h1 h2 hR hS hl
  have hlocks : meth.locks = false := C.2.2.2.2.2.2.1
  refine W.widen (k := cells + bc) (n := slots + bs) (Nat.le_add_right _ _) (Nat.le_add_right _ _) ?_
  exact W.zret (v := v) C.1 C.2.1 (C.2.2.2.2.2.1.trans hr) (by rcases hv with rfl | rfl <;> rfl) (fun t ht _ => ⟨some (.int v), M, ad, rfl, List.prefix_rfl, by rw [ht]; exact hR, hq, hS.F ht⟩) hS.2.2 hd
theorem go_lret {v : Int64} (hd : decode μ.2.2.1 pc = .ok (.lreturn, 1)) (hr : μ.2.2.2.2 = some .long) (hq : Q (some (.long v)) M) : Go w d bc bs μ pc lv [.long v] M (go_Z w Q) := by
  intro p e R s m args below meth cd H ls locs cells slots ad C h1 h2 hR hS hl
  have hlocks : meth.locks = false := C.2.2.2.2.2.2.1
  refine W.widen (k := cells + bc) (n := slots + bs) (Nat.le_add_right _ _) (Nat.le_add_right _ _) ?_
  exact W.lret (v := v) C.1 C.2.1 (C.2.2.2.2.2.1.trans hr) (fun t ht _ => ⟨some (.long v), M, ad, rfl, List.prefix_rfl, by rw [ht]; exact hR, hq, hS.F ht⟩) hS.2.2 hd
theorem go_vret (hd : decode μ.2.2.1 pc = .ok (.return_, 1)) (hr : μ.2.2.2.2 = none) (hq : Q none M) : Go w d bc bs μ pc lv [] M (go_Z w Q) := by
  intro p e R s m args below meth cd H ls locs cells slots ad C h1 h2 hR hS hl
  have hlocks : meth.locks = false := C.2.2.2.2.2.2.1
  refine W.widen (k := cells + bc) (n := slots + bs) (Nat.le_add_right _ _) (Nat.le_add_right _ _) ?_
  exact W.vret C.1 C.2.1 (C.2.2.2.2.2.1.trans hr) (fun t ht _ => ⟨none, M, ad, rfl, List.prefix_rfl, by rw [ht]; exact hR, hq, hS.F ht⟩) hS.2.2 hd
theorem go_aret {v : Value} {rt : FieldType} (hd : decode μ.2.2.1 pc = .ok (.areturn, 1)) (hr : μ.2.2.2.2 = some rt) (hrt : ∃ n, rt = .object n) (hv : v = .null ∨ ∃ a, v = .ref a) (hq : Q (some v) M) : Go w d bc bs μ pc lv [v] M (go_Z w Q) := by
  intro p e R s m args below meth cd H ls locs cells slots ad C h1 h2 hR hS hl
  have hlocks : meth.locks = false := C.2.2.2.2.2.2.1
  refine W.widen (k := cells + bc) (n := slots + bs) (Nat.le_add_right _ _) (Nat.le_add_right _ _) ?_
  exact W.aret (v := go_tv w ad v) C.1 C.2.1 (C.2.2.2.2.2.1.trans hr) (Or.inl hrt) (by rcases hv with rfl | ⟨a, rfl⟩ <;> first | exact Or.inl rfl | exact Or.inr ⟨_, rfl⟩) (fun t ht _ => ⟨some v, M, ad, rfl, List.prefix_rfl, by rw [ht]; exact hR, hq, hS.F ht⟩) hS.2.2 hd
end GoRet
/-- a call, once the machine has run it -/
theorem go_run {p : Program} {l : Launch} {e : Env} {R : Room} {s : State} {m : MethodId} {args : Array Value} {below : List Frame} {meth : Method} {c : Code} {H : Heap} {locs : List Loc} {cells slots mc ms pc : Nat} {ls : Array Slot} {st0 rest : List Value} {Zz : State → Prop} {w : go_Wd} {Q2 : Option Value → go_M → Prop} {ad : List Nat} {as : Array Value}
    (hr : va_Run p l e R s m args below meth c H locs cells slots mc ms (F0 m pc ls st0) rest (go_QC w Q2 ad as) (go_A w)) (hS : va_S (go_A w) s.heap H locs)
    (kk : ∀ (r : Option Value) (M' : go_M) (ad' : List Nat) (H1 : Heap) (locs1 : List Loc), ad <+: ad' → go_R w ad' M' H1 → Q2 r M' → va_S (go_A w) s.heap H1 locs1 → W p l e R s m args below meth c H1 locs1 (cells + mc) (slots + ms) Zz (F0 m (pc + 3) ls ((r.map (go_tv w ad')).toList ++ rest))) :
    W p l e R s m args below meth c H locs cells slots Zz (F0 m pc ls st0) := by
  intro T hT X
  obtain ⟨v, st₀, t, T', L, e1, X', e2, e3, e4, e5, e6⟩ := hr T hT X
  obtain ⟨r, M', ad', q1, q2, q3, q4, q5⟩ := e5
  have hv : v = r.map (go_tv w ad') := Outcome.returned.inj q1
  subst hv
  have hS1 : va_S (go_A w) s.heap t.heap (locs ++ L) := by
    refine ⟨Nat.le_trans hS.1 (by rw [← e1]; exact q5.1), fun q h1 h2 => ?_, fun z hz => ?_⟩
    · rw [q5.2 q (by rw [e1]; exact Nat.lt_of_lt_of_le h1 hS.1) h2, e1]
      exact hS.2.1 q h1 h2
    · rcases List.mem_append.mp hz with h | h
      · exact hS.2.2 z h
      · exact e2 z h
  obtain ⟨t2, a1, b1⟩ := kk r M' ad' t.heap (locs ++ L) q2 q3 q4 hS1 T' e3 X'
  exact ⟨t2, e6 t2 a1, b1⟩
def go_wv (n : Nat) : Value → Prop
  | .ref k => k < n ∨ 1000000 ≤ k
  | _ => True
theorem go_ra_pre {w : go_Wd} {ad ad' : List Nat} (h : ad <+: ad') {k : Nat} (hk : k < ad.length ∨ 1000000 ≤ k) : go_ra w ad' k = go_ra w ad k := by
  obtain ⟨t, rfl⟩ := h
  unfold go_ra
  by_cases h1 : k < 1000000
  · rw [if_pos h1, if_pos h1]
    have h2 : k < ad.length := by omega
    rw [List.getD_eq_getElem?_getD, List.getD_eq_getElem?_getD, List.getElem?_append_left h2]
  · rw [if_neg h1, if_neg h1]
theorem go_tv_pre {w : go_Wd} {ad ad' : List Nat} (h : ad <+: ad') {v : Value} (hv : go_wv ad.length v) : go_tv w ad' v = go_tv w ad v := by
  cases v with
  | ref k => exact congrArg Value.ref (go_ra_pre h hv)
  | _ => rfl
theorem go_st_pre {w : go_Wd} {ad ad' : List Nat} (h : ad <+: ad') : ∀ {st : List Value}, (∀ v ∈ st, go_wv ad.length v) → st.map (go_tv w ad') = st.map (go_tv w ad)
  | [], _ => rfl
  | v :: st, hv => by
    rw [List.map_cons, List.map_cons, go_tv_pre h (hv v List.mem_cons_self), go_st_pre h (fun x hx => hv x (List.mem_cons_of_mem _ hx))]
theorem go_tl_pre {w : go_Wd} {ad ad' : List Nat} (h : ad <+: ad') : ∀ {lv : List (Nat × Value)}, (∀ q ∈ lv, go_wv ad.length q.2) → go_tl w ad' lv = go_tl w ad lv
  | [], _ => rfl
  | q :: lv, hv => by
    show (q.1, go_tv w ad' q.2) :: go_tl w ad' lv = (q.1, go_tv w ad q.2) :: go_tl w ad lv
    rw [go_tv_pre h (hv q List.mem_cons_self), go_tl_pre h (fun x hx => hv x (List.mem_cons_of_mem _ hx))]
/-- behind a call the rest of the stack and the locals mean what they meant: no cell has come, or all their references are old ones -/
def go_ok (M M' : go_M) (lv : List (Nat × Value)) (st : List Value) : Prop := M'.1.length = M.1.length ∨ ((∀ v ∈ st, go_wv M.1.length v) ∧ ∀ q ∈ lv, go_wv M.1.length q.2)
def go_up (Z : go_ZT) : Prop := ∀ (below : List Frame) (args : Array Value) (s : State) (mc ms : Nat) (ad ad' : List Nat) (t : State), ad <+: ad' → Z below args s mc ms ad' t → Z below args s mc ms ad t
theorem go_Z_up (w : go_Wd) (Q : Option Value → go_M → Prop) : go_up (go_Z w Q) := by
  intro below args s mc ms ad ad' t h hz
  obtain ⟨o, a1, a2, ⟨r, M', ad2, b1, b2, b3, b4, b5⟩, a4⟩ := hz
  exact ⟨o, a1, a2, ⟨r, M', ad2, b1, h.trans b2, b3, b4, b5⟩, a4⟩
theorem go_blind (w : go_Wd) (ad : List Nat) (M : go_M) (as : List Value) : FrameBlind (va_Pc as (fun U => go_I w U U.heap ∧ go_R w ad M U.heap)) := by
  intro a U g mk h
  exact ⟨h.1, go_I.same (u := U) rfl h.2.1, h.2.2⟩
theorem go_goodIn {μ2 : go_Mt} (h : Cond.code μ2.2.1 μ2.2.2.1 μ2.2.2.2.1 μ2.2.2.2.2 ∈ go_all) : GoodIn go_all (go_words μ2) := by
  intro x hx
  rcases List.mem_cons.mp hx with rfl | hx
  · exact ⟨h, good_of_word (go_good h)⟩
  · exact ⟨hx, good_of_word (go_good hx)⟩
/-- a call's link, and what is known of the method called -/
def go_L (own : String) (idx : Nat) (μ2 : go_Mt) (n : Nat) : Prop :=
  Cond.methodLink own idx μ2.2.1 ∈ go_all ∧ Cond.initialized μ2.1 ∈ go_all ∧ Cond.code μ2.2.1 μ2.2.2.1 μ2.2.2.2.1 μ2.2.2.2.2 ∈ go_all ∧ μ2.2.1.cls = μ2.1 ∧
  (μ2.2.1.cls ≠ "java/lang/invoke/MethodHandle" ∧ μ2.2.1.cls ≠ "java/lang/invoke/VarHandle" ∧ (parseMethodDescriptor μ2.2.1.desc).map (fun q => q.parameters.length) = some n) ∧ μ2.2.2.2.1 ≤ 31
def go_LV (own : String) (idx : Nat) (μ2 : go_Mt) (n : Nat) : Prop := go_L own idx μ2 n ∧ Cond.instanceMethod μ2.2.1 ∈ go_all ∧ Cond.selects μ2.1 μ2.2.1 μ2.2.1 ∈ go_all
def go_LS (own : String) (idx : Nat) (μ2 : go_Mt) (n : Nat) : Prop := go_L own idx μ2 n ∧ Cond.static μ2.2.1 ∈ go_all
def go_LI (own : String) (idx : Nat) (μ2 : go_Mt) (n : Nat) : Prop := go_L own idx μ2 n ∧ Cond.instanceMethod μ2.2.1 ∈ go_all ∧ μ2.2.1.name = "<init>" ∧ μ2.2.2.2.2 = none
def go_LN (own : String) (idx : Nat) (μ2 : go_Mt) (n : Nat) : Prop :=
  (∃ host, Cond.methodLinkNest own idx μ2.2.1 host ∈ go_nest) ∧ Cond.initialized μ2.1 ∈ go_all ∧ Cond.code μ2.2.1 μ2.2.2.1 μ2.2.2.2.1 μ2.2.2.2.2 ∈ go_all ∧ μ2.2.1.cls = μ2.1 ∧
  (μ2.2.1.cls ≠ "java/lang/invoke/MethodHandle" ∧ μ2.2.1.cls ≠ "java/lang/invoke/VarHandle" ∧ (parseMethodDescriptor μ2.2.1.desc).map (fun q => q.parameters.length) = some n) ∧ μ2.2.2.2.1 ≤ 31
def go_LSN (own : String) (idx : Nat) (μ2 : go_Mt) (n : Nat) : Prop := go_LN own idx μ2 n ∧ Cond.static μ2.2.1 ∈ go_all
def go_LIN (own : String) (idx : Nat) (μ2 : go_Mt) (n : Nat) : Prop := go_LN own idx μ2 n ∧ Cond.instanceMethod μ2.2.1 ∈ go_all ∧ μ2.2.1.name = "<init>" ∧ μ2.2.2.2.2 = none
section GoCall
variable {w : go_Wd} {d d2 bc bs bc2 bs2 : Nat} {μ μ2 : go_Mt} {pc idx n : Nat} {lv : List (Nat × Value)} {st as : List Value} {M : go_M} {Z : go_ZT} {Q2 : Option Value → go_M → Prop}
theorem go_behind {p : Program} {e : Env} {R : Room} {s : State} {m : MethodId} {args : Array Value} {below : List Frame} {meth : Method} {c : Code} {H : Heap} {ls : Array Slot} {locs : List Loc} {cells slots : Nat} {ad : List Nat} {st0 : List Value} {a2 : Array Value} (hZ : go_up Z)
    (C : go_C w d μ p R s m args meth c) (h1 : cells + (bc2 + bc) ≤ R.cells) (h2 : slots + (bs2 + bs) ≤ R.slots) (hR : go_R w ad M H) (hS : va_S (go_A w) s.heap H locs) (hl : lv_has ls μ.2.2.2.1 (go_tl w ad lv))
    (hr : va_Run p w.1 e R s m args below meth c H locs cells slots bc2 bs2 (F0 m pc ls st0) (st.map (go_tv w ad)) (go_QC w Q2 ad a2) (go_A w))
    (hok : ∀ r M', Q2 r M' → go_ok M M' lv st) (k : ∀ r M', Q2 r M' → Go w d bc bs μ (pc + 3) lv (r.toList ++ st) M' Z) :
    W p w.1 e R s m args below meth c H locs cells slots (Z below args s (cells + (bc2 + bc)) (slots + (bs2 + bs)) ad) (F0 m pc ls st0) := by
  refine go_run hr hS (fun r M' ad' H1 locs1 hpre hR1 hq hS1 => ?_)
  have key : st.map (go_tv w ad') = st.map (go_tv w ad) ∧ go_tl w ad' lv = go_tl w ad lv := by
    rcases hok r M' hq with h | ⟨ha, hb⟩
    · have : ad' = ad := go_pre hpre (by rw [hR1.1, h, hR.1])
      rw [this]
      exact ⟨rfl, rfl⟩
    · rw [← hR.1] at ha hb
      exact ⟨go_st_pre hpre ha, go_tl_pre hpre hb⟩
  have hk := k r M' hq p e R s m args below meth c H1 ls locs1 (cells + bc2) (slots + bs2) ad' C (by omega) (by omega) hR1 hS1 (by rw [key.2]; exact hl)
  have e3 : (r.toList ++ st).map (go_tv w ad') = (r.map (go_tv w ad')).toList ++ st.map (go_tv w ad) := by
    rw [List.map_append, key.1]
    cases r <;> rfl
  rw [e3, Nat.add_assoc, Nat.add_assoc] at hk
  intro T hT X
  obtain ⟨t, g1, g2⟩ := hk T hT X
  exact ⟨t, g1, hZ _ _ _ _ _ ad ad' t hpre g2⟩
theorem go_prS {s : State} {H : Heap} {ad : List Nat} {locs : List Loc} (hI : go_I w s s.heap) (hR : go_R w ad M H) (hS : va_S (go_A w) s.heap H locs) : PreS s H (va_Pc (as.map (go_tv w ad)) (fun U => go_I w U U.heap ∧ go_R w ad M U.heap)) (as.map (go_tv w ad)) :=
  ⟨go_blind w ad M _, fun U hU hW => ⟨rfl, by rw [hU]; exact hI.to hW hS.1 hS.2.1, by rw [hU]; exact hR⟩⟩
theorem go_callS (hd : decode μ.2.2.1 pc = .ok (.invokestatic idx, 3)) (hL : go_LS μ.1 idx μ2 n) (hc : Ct w d2 bc2 bs2 μ2 as M Q2) (hn : as.length = n) (hdd : d2 + 1 ≤ d) (hst : (st.map fun v => v.category).sum ≤ 8) (hZ : go_up Z) {st0 : List Value} (hs0 : as.reverse ++ st = st0)
    (hok : ∀ r M', Q2 r M' → go_ok M M' lv st) (k : ∀ r M', Q2 r M' → Go w d bc bs μ (pc + 3) lv (r.toList ++ st) M' Z) : Go w d (bc2 + bc) (bs2 + bs) μ pc lv st0 M Z := by
  intro p e R s m args below meth c H ls locs cells slots ad C h1 h2 hR hS hl
  obtain ⟨⟨L1, L2, L3, L4, L5, L6⟩, L7⟩ := hL
  have hts := C.2.2.2.2.1
  refine go_behind (a2 := (as.map (go_tv w ad)).toArray) (Q2 := Q2) hZ C h1 h2 hR hS hl ?_ hok k
  refine va_runS (Ts := go_all) (ws := go_words μ2) (rm := go_room d2 bc2 bs2) (own := μ.1) (y := μ2.2.1) (bytes := μ2.2.2.1) (maxL := μ2.2.2.2.1) (ret := μ2.2.2.2.2) (n := n) (cc := μ.2.2.1) (nL := μ.2.2.2.1) (index := idx) (As := as.map (go_tv w ad)) ⟨C.1, C.2.1, C.2.2.1, C.2.2.2.1, hts⟩ (hc ad)
    ⟨callB_of n hts (go_goodIn L3) rfl rfl rfl (by rw [L4]; exact hts _ L2) (hts _ L1) L5 ⟨by show d2 + 1 ≤ _; exact Nat.le_trans hdd C.2.2.2.2.2.2.2.2.2.1, by have := C.2.2.2.2.2.2.2.2.2.2; show 8 + (_ + 11) + d2 * 50 ≤ _; omega⟩, hts _ L7⟩
    (go_prS C.2.2.2.2.2.2.2.2.1 hR hS) rfl (by rw [List.length_map]; exact hn) hl.1 (by rw [← hs0, List.map_append, List.map_reverse]) (lv_room (by rw [List.map_map, show ((fun v : Value => v.category) ∘ go_tv w ad) = (fun v : Value => v.category) from funext fun v => go_tv_cat w ad v]; exact hst)) hd ⟨by omega, by omega⟩
theorem go_callSN (hd : decode μ.2.2.1 pc = .ok (.invokestatic idx, 3)) (hL : go_LSN μ.1 idx μ2 n) (hc : Ct w d2 bc2 bs2 μ2 as M Q2) (hn : as.length = n) (hdd : d2 + 1 ≤ d) (hst : (st.map fun v => v.category).sum ≤ 8) (hZ : go_up Z) {st0 : List Value} (hs0 : as.reverse ++ st = st0)
    (hok : ∀ r M', Q2 r M' → go_ok M M' lv st) (k : ∀ r M', Q2 r M' → Go w d bc bs μ (pc + 3) lv (r.toList ++ st) M' Z) : Go w d (bc2 + bc) (bs2 + bs) μ pc lv st0 M Z := by
  intro p e R s m args below meth c H ls locs cells slots ad C h1 h2 hR hS hl
  obtain ⟨⟨⟨host, L1⟩, L2, L3, L4, L5, L6⟩, L7⟩ := hL
  have hts := C.2.2.2.2.1
  have hI := C.2.2.2.2.2.2.2.2.1
  refine go_behind (a2 := (as.map (go_tv w ad)).toArray) (Q2 := Q2) hZ C h1 h2 hR hS hl ?_ hok k
  refine va_runSN (Ts := go_all) (ws := go_words μ2) (rm := go_room d2 bc2 bs2) (own := μ.1) (host := host) (y := μ2.2.1) (bytes := μ2.2.2.1) (maxL := μ2.2.2.2.1) (ret := μ2.2.2.2.2) (n := n) (cc := μ.2.2.1) (nL := μ.2.2.2.1) (index := idx) (As := as.map (go_tv w ad)) ⟨C.1, C.2.1, C.2.2.1, C.2.2.2.1, hts⟩ (hc ad)
    ⟨va_cnB n hts (go_goodIn L3) rfl rfl rfl (hI.2.1 _ L1) (by rw [L4]; exact hts _ L2) L5 ⟨by show d2 + 1 ≤ _; exact Nat.le_trans hdd C.2.2.2.2.2.2.2.2.2.1, by have := C.2.2.2.2.2.2.2.2.2.2; show 8 + (_ + 11) + d2 * 50 ≤ _; omega⟩, hts _ L7, trivial⟩
    (go_prS hI hR hS) rfl (by rw [List.length_map]; exact hn) hl.1 (by rw [← hs0, List.map_append, List.map_reverse]) (lv_room (by rw [List.map_map, show ((fun v : Value => v.category) ∘ go_tv w ad) = (fun v : Value => v.category) from funext fun v => go_tv_cat w ad v]; exact hst)) hd ⟨by omega, by omega⟩
theorem go_callI {b : Nat} (hd : decode μ.2.2.1 pc = .ok (.invokespecial idx, 3)) (hL : go_LI μ.1 idx μ2 n) (hc : Ct w d2 bc2 bs2 μ2 (.ref b :: as) M Q2) (hn : as.length = n) (hdd : d2 + 1 ≤ d) (hst : (st.map fun v => v.category).sum ≤ 8) (hZ : go_up Z) {st0 : List Value} (hs0 : as.reverse ++ .ref b :: st = st0)
    (hok : ∀ r M', Q2 r M' → go_ok M M' lv st) (k : ∀ r M', Q2 r M' → Go w d bc bs μ (pc + 3) lv (r.toList ++ st) M' Z) : Go w d (bc2 + bc) (bs2 + bs) μ pc lv st0 M Z := by
  intro p e R s m args below meth c H ls locs cells slots ad C h1 h2 hR hS hl
  obtain ⟨⟨L1, L2, L3, L4, L5, L6⟩, L7, L8, L9⟩ := hL
  have hts := C.2.2.2.2.1
  refine go_behind (a2 := ((Value.ref b :: as).map (go_tv w ad)).toArray) (Q2 := Q2) hZ C h1 h2 hR hS hl ?_ hok k
  refine va_runI (Ts := go_all) (ws := go_words μ2) (rm := go_room d2 bc2 bs2) (own := μ.1) (y := μ2.2.1) (bytes := μ2.2.2.1) (maxL := μ2.2.2.2.1) (n := n) (cc := μ.2.2.1) (nL := μ.2.2.2.1) (index := idx) (b := go_ra w ad b) (As := as.map (go_tv w ad)) ⟨C.1, C.2.1, C.2.2.1, C.2.2.2.1, hts⟩ (hc ad)
    ⟨callB_of n hts (go_goodIn L3) (by rw [← L9]; rfl) rfl rfl (by rw [L4]; exact hts _ L2) (hts _ L1) L5 ⟨by show d2 + 1 ≤ _; exact Nat.le_trans hdd C.2.2.2.2.2.2.2.2.2.1, by have := C.2.2.2.2.2.2.2.2.2.2; show 8 + (_ + 11) + d2 * 50 ≤ _; omega⟩, L8, hts _ L7⟩
    (go_prS (as := .ref b :: as) C.2.2.2.2.2.2.2.2.1 hR hS) rfl (by rw [List.length_map]; exact hn) hl.1 (by rw [← hs0, List.map_append, List.map_reverse]; rfl) (lv_room (by rw [List.map_map, show ((fun v : Value => v.category) ∘ go_tv w ad) = (fun v : Value => v.category) from funext fun v => go_tv_cat w ad v]; exact hst)) hd ⟨by omega, by omega⟩
theorem go_callIN {b : Nat} (hd : decode μ.2.2.1 pc = .ok (.invokespecial idx, 3)) (hL : go_LIN μ.1 idx μ2 n) (hc : Ct w d2 bc2 bs2 μ2 (.ref b :: as) M Q2) (hn : as.length = n) (hdd : d2 + 1 ≤ d) (hst : (st.map fun v => v.category).sum ≤ 8) (hZ : go_up Z) {st0 : List Value} (hs0 : as.reverse ++ .ref b :: st = st0)
    (hok : ∀ r M', Q2 r M' → go_ok M M' lv st) (k : ∀ r M', Q2 r M' → Go w d bc bs μ (pc + 3) lv (r.toList ++ st) M' Z) : Go w d (bc2 + bc) (bs2 + bs) μ pc lv st0 M Z := by
  intro p e R s m args below meth c H ls locs cells slots ad C h1 h2 hR hS hl
  obtain ⟨⟨⟨host, L1⟩, L2, L3, L4, L5, L6⟩, L7, L8, L9⟩ := hL
  have hts := C.2.2.2.2.1
  have hI := C.2.2.2.2.2.2.2.2.1
  refine go_behind (a2 := ((Value.ref b :: as).map (go_tv w ad)).toArray) (Q2 := Q2) hZ C h1 h2 hR hS hl ?_ hok k
  refine va_runIN (Ts := go_all) (ws := go_words μ2) (rm := go_room d2 bc2 bs2) (own := μ.1) (host := host) (y := μ2.2.1) (bytes := μ2.2.2.1) (maxL := μ2.2.2.2.1) (n := n) (cc := μ.2.2.1) (nL := μ.2.2.2.1) (index := idx) (b := go_ra w ad b) (As := as.map (go_tv w ad)) ⟨C.1, C.2.1, C.2.2.1, C.2.2.2.1, hts⟩ (hc ad)
    ⟨va_cnB n hts (go_goodIn L3) (by rw [← L9]; rfl) rfl rfl (hI.2.1 _ L1) (by rw [L4]; exact hts _ L2) L5 ⟨by show d2 + 1 ≤ _; exact Nat.le_trans hdd C.2.2.2.2.2.2.2.2.2.1, by have := C.2.2.2.2.2.2.2.2.2.2; show 8 + (_ + 11) + d2 * 50 ≤ _; omega⟩, L8, hts _ L7⟩
    (go_prS (as := .ref b :: as) hI hR hS) rfl (by rw [List.length_map]; exact hn) hl.1 (by rw [← hs0, List.map_append, List.map_reverse]; rfl) (lv_room (by rw [List.map_map, show ((fun v : Value => v.category) ∘ go_tv w ad) = (fun v : Value => v.category) from funext fun v => go_tv_cat w ad v]; exact hst)) hd ⟨by omega, by omega⟩
theorem go_callV {b ci nn : Nat} {T : u_T} {N : Nat} (hd : decode μ.2.2.1 pc = .ok (.invokevirtual idx, 3)) (hL : go_LV μ.1 idx μ2 n) (hk : M.1[b]? = some (ci, nn)) (hci : ci < 100) (hcl : go_cl[ci]? = some (μ2.1, T, N)) (hc : Ct w d2 bc2 bs2 μ2 (.ref b :: as) M Q2) (hn : as.length = n) (hdd : d2 + 1 ≤ d) (hst : (st.map fun v => v.category).sum ≤ 8) (hZ : go_up Z) {st0 : List Value} (hs0 : as.reverse ++ .ref b :: st = st0)
    (hok : ∀ r M', Q2 r M' → go_ok M M' lv st) (k : ∀ r M', Q2 r M' → Go w d bc bs μ (pc + 3) lv (r.toList ++ st) M' Z) : Go w d (bc2 + bc) (bs2 + bs) μ pc lv st0 M Z := by
  intro p e R s m args below meth c H ls locs cells slots ad C h1 h2 hR hS hl
  obtain ⟨⟨L1, L2, L3, L4, L5, L6⟩, L7, L8⟩ := hL
  have hts := C.2.2.2.2.1
  have hI := C.2.2.2.2.2.2.2.2.1
  have hprS := go_prS (as := .ref b :: as) hI hR hS
  refine go_behind (a2 := ((Value.ref b :: as).map (go_tv w ad)).toArray) (Q2 := Q2) hZ C h1 h2 hR hS hl ?_ hok k
  refine va_runV (Ts := go_all) (ws := go_words μ2) (rm := go_room d2 bc2 bs2) (own := μ.1) (C := μ2.1) (y := μ2.2.1) (bytes := μ2.2.2.1) (maxL := μ2.2.2.2.1) (ret := μ2.2.2.2.2) (n := n) (cc := μ.2.2.1) (nL := μ.2.2.2.1) (index := idx) (b := go_ra w ad b) (As := as.map (go_tv w ad)) ⟨C.1, C.2.1, C.2.2.1, C.2.2.2.1, hts⟩ (hc ad)
    ⟨callB_of n hts (go_goodIn L3) rfl rfl rfl (by rw [L4]; exact hts _ L2) (hts _ L1) L5 ⟨by show d2 + 1 ≤ _; exact Nat.le_trans hdd C.2.2.2.2.2.2.2.2.2.1, by have := C.2.2.2.2.2.2.2.2.2.2; show 8 + (_ + 11) + d2 * 50 ≤ _; omega⟩, hts _ L7, hts _ L8⟩
    ⟨hprS.1, by rw [go_ra_in hR hk]; exact va_recv (q := (μ2.1, T, N)) hI.1 hR.2.2.1 hcl (go_ob hk hci), hprS.2⟩ rfl (by rw [List.length_map]; exact hn) hl.1 (by rw [← hs0, List.map_append, List.map_reverse]; rfl) (lv_room (by rw [List.map_map, show ((fun v : Value => v.category) ∘ go_tv w ad) = (fun v : Value => v.category) from funext fun v => go_tv_cat w ad v]; exact hst)) hd ⟨by omega, by omega⟩
end GoCall
