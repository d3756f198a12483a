/-! ===== making objects and arrays ===== -/
def go_nw (M : go_M) (k : Nat × Nat) : go_M := (M.1 ++ [k], va_up M.2.1 M.1.length (fun _ => 0), va_up M.2.2.1 M.1.length (fun _ => 0), va_up M.2.2.2 M.1.length (fun _ => none))
def go_wm (M : go_M) : Prop := ∀ c j q, M.2.2.2 c j = some q → q < M.1.length ∨ 1000000 ≤ q
theorem go_e_pre {w : go_Wd} {ad ad' : List Nat} {M : go_M} (hp : ad <+: ad') (hl : ad.length = M.1.length) (hw : go_wm M) (c : Nat) (k : Nat × Nat) : go_e w ad' M c k = go_e w ad M c k := by
  have h : ∀ j, (M.2.2.2 c j).map (go_ra w ad') = (M.2.2.2 c j).map (go_ra w ad) := by
    intro j
    cases hq : M.2.2.2 c j with
    | none => rfl
    | some q => exact congrArg some (go_ra_pre hp (by rw [hl]; exact hw c j q hq))
  simp only [go_e, go_fs, go_fv, h]
theorem go_ws_new {w : go_Wd} {ad : List Nat} {M : go_M} {k : Nat × Nat} {q : Nat} (hl : ad.length = M.1.length) (hw : go_wm M) : go_ws w (ad ++ [q]) (go_nw M k) = go_ws w ad M ++ [(q, go_e w (ad ++ [q]) (go_nw M k) M.1.length k)] := by
  have hlen : (go_ws w ad M).length = M.1.length := by unfold go_ws; rw [List.length_mapIdx]
  apply List.ext_getElem?
  intro i
  by_cases hi : i < M.1.length
  · rw [List.getElem?_append_left (by rw [hlen]; exact hi)]
    unfold go_ws
    rw [List.getElem?_mapIdx, List.getElem?_mapIdx]
    rw [show (go_nw M k).1[i]? = M.1[i]? from List.getElem?_append_left hi]
    cases M.1[i]? with
    | none => rfl
    | some z =>
      have e1 : (ad ++ [q]).getD i 0 = ad.getD i 0 := by
        rw [List.getD_eq_getElem?_getD, List.getD_eq_getElem?_getD, List.getElem?_append_left (by omega)]
      have e2 : go_e w (ad ++ [q]) (go_nw M k) i z = go_e w ad M i z := by
        rw [go_e_of (M := M) (if_neg (Nat.ne_of_lt hi)) (if_neg (Nat.ne_of_lt hi)) (if_neg (Nat.ne_of_lt hi))]
        exact go_e_pre (List.prefix_append _ _) hl hw i z
      simp only [Option.map_some, e1, e2]
  · by_cases hi2 : i = M.1.length
    · subst hi2
      rw [List.getElem?_append_right (by omega), hlen, Nat.sub_self]
      rw [go_ws_at (k := k) (by show (M.1 ++ [k])[M.1.length]? = _; rw [List.getElem?_append_right (Nat.le_refl _), Nat.sub_self]; rfl)]
      rw [List.getD_eq_getElem?_getD, List.getElem?_append_right (by omega), hl, Nat.sub_self]
      rfl
    · rw [List.getElem?_eq_none (by unfold go_ws go_nw; rw [List.length_mapIdx, List.length_append, List.length_singleton]; omega), List.getElem?_eq_none (by rw [List.length_append, List.length_singleton, hlen]; omega)]
/-- a class that can be made -/
def go_Cn (own : String) (idx ci : Nat) : Prop := ∃ (C : String) (T : u_T) (N : Nat), go_cl[ci]? = some (C, T, N) ∧ N = go_N ci ∧ (∀ x ∈ u_ws C T N, x ∈ go_all) ∧ (∀ k, k < N → parseFieldDescriptor (T k).2.2.1 = some (go_ty ci k)) ∧ (∀ j, j < N → go_ty ci j ≠ .float ∧ go_ty ci j ≠ .double) ∧ ci < 100 ∧ Cond.classLink own idx C ∈ go_all ∧ Cond.instantiable C N ∈ go_all ∧ Cond.initialized C ∈ go_all
section GoNew
variable {w : go_Wd} {d bc bs : Nat} {μ : go_Mt} {pc : Nat} {lv : List (Nat × Value)} {st : List Value} {M : go_M} {Z : go_ZT}
theorem go_made {p : Program} {e : Env} {R : Room} {s : State} {m : MethodId} {args : Array Value} {below : List Frame} {meth : Method} {cd : Code} {H1 : Heap} {ls : Array Slot} {locs : List Loc} {cells slots pc' n : Nat} {ad : List Nat} {kk : Nat × Nat} {q : Nat} (hZ : go_up Z) (hlen : M.1.length < 1000000) (hw : go_wm M) (hst : ∀ v ∈ st, go_wv M.1.length v) (hlv : ∀ x ∈ lv, go_wv M.1.length x.2)
    (C : go_C w d μ p R s m args meth cd) (h1 : cells + (1 + bc) ≤ R.cells) (h2 : slots + (n + bs) ≤ R.slots) (hl0 : ad.length = M.1.length) (hl : lv_has ls μ.2.2.2.1 (go_tl w ad lv))
    (hP : va_P w.2.1 go_cl (go_ws w ad M ++ [(q, go_e w (ad ++ [q]) (go_nw M kk) M.1.length kk)]) H1) (hD : va_D (go_A w) (go_ws w ad M ++ [(q, go_e w (ad ++ [q]) (go_nw M kk) M.1.length kk)])) (hS : va_S (go_A w) s.heap H1 locs)
    (k : Go w d bc bs μ pc' lv (.ref M.1.length :: st) (go_nw M kk) Z) : W p w.1 e R s m args below meth cd H1 locs (cells + 1) (slots + n) (Z below args s (cells + (1 + bc)) (slots + (n + bs)) ad) (F0 m pc' ls (.ref q :: st.map (go_tv w ad))) := by
  have hp : ad <+: ad ++ [q] := List.prefix_append _ _
  rw [← go_ws_new hl0 hw] at hP hD
  rw [← hl0] at hst hlv
  have hk := k p e R s m args below meth cd H1 ls locs (cells + 1) (slots + n) (ad ++ [q]) C (by omega) (by omega) ⟨by rw [List.length_append, hl0]; show _ = (M.1 ++ [kk]).length; rw [List.length_append]; rfl, by show (M.1 ++ [kk]).length ≤ _; rw [List.length_append, List.length_singleton]; omega, hP, hD⟩ hS (by rw [go_tl_pre hp hlv]; exact hl)
  have e1 : (Value.ref M.1.length :: st).map (go_tv w (ad ++ [q])) = .ref q :: st.map (go_tv w ad) := by
    rw [List.map_cons, go_st_pre hp hst]
    congr 1
    show Value.ref (go_ra w (ad ++ [q]) M.1.length) = _
    unfold go_ra
    rw [if_pos hlen, List.getD_eq_getElem?_getD, List.getElem?_append_right (by omega), hl0, Nat.sub_self]
    rfl
  rw [e1, Nat.add_assoc, Nat.add_assoc] at hk
  intro T hT X
  obtain ⟨t, g1, g2⟩ := hk T hT X
  exact ⟨t, g1, hZ _ _ _ _ _ ad (ad ++ [q]) t hp g2⟩
theorem go_new {idx ci : Nat} (hd : decode μ.2.2.1 pc = .ok (.new idx, 3)) (hF : go_Cn μ.1 idx ci) (hZ : go_up Z) (hlen : M.1.length < 1000000) (hw : go_wm M) (hst : ∀ v ∈ st, go_wv M.1.length v) (hlv : ∀ x ∈ lv, go_wv M.1.length x.2) (k : Go w d bc bs μ (pc + 3) lv (.ref M.1.length :: st) (go_nw M (ci, go_N ci)) Z) : Go w d (1 + bc) (go_N ci + bs) μ pc lv st M Z := by
  intro p e R s m args below meth cd H ls locs cells slots ad C h1 h2 hR hS hl
  obtain ⟨C0, T, N, f1, f2, f3, f4, f5, f6, f7, f8, f9⟩ := hF
  subst f2
  have hts := C.2.2.2.2.1
  have hI := C.2.2.2.2.2.2.2.2.1
  refine va_new (ci := ci) (C := C0) (T := T) (N := go_N ci) (fs := (List.range (go_N ci)).map (fun j => defaultValue (go_ty ci j))) C.1 C.2.1 hts f3 (go_ty ci) f4 C.2.2.2.1 (hts _ f7) (hts _ f8) (hts _ f9) hI.1 hR.2.2.1 hR.2.2.2 hS (fun q hq => Nat.le_trans hI.2.2.2.2.1 hq) f1 ?_ (by omega) (by omega) hd (fun q H1 hP hD hS1 => ?_)
  · intro j hj
    unfold vp_V
    rw [List.getD_eq_getElem?_getD, List.getElem?_map, List.getElem?_range hj]
    rfl
  · have e1 : go_e w (ad ++ [q]) (go_nw M (ci, go_N ci)) M.1.length (ci, go_N ci) = .inr (ci, (List.range (go_N ci)).map (fun j => defaultValue (go_ty ci j))) := by
      unfold go_e
      rw [if_pos f6]
      congr 2
      unfold go_fs
      apply List.map_congr_left
      intro j hj
      have g1 : (go_nw M (ci, go_N ci)).2.1 M.1.length = fun _ => 0 := if_pos rfl
      have g2 : (go_nw M (ci, go_N ci)).2.2.1 M.1.length = fun _ => 0 := if_pos rfl
      have g3 : (go_nw M (ci, go_N ci)).2.2.2 M.1.length = fun _ => none := if_pos rfl
      have g4 := f5 j (List.mem_range.mp hj)
      cases hty : go_ty ci j <;> first | (simp only [go_fv, g1, g2, g3]; rfl) | exact absurd hty g4.1 | exact absurd hty g4.2
    rw [← e1] at hP hD
    exact go_made hZ hlen hw hst hlv C h1 h2 hR.1 hl hP hD hS1 k
theorem go_cA {s : State} {cA : ClassId} {i : Nat} {ty : FieldType} (hK : va_K w.2.1 go_cl (go_tys w ++ [(cA, ty)]) s) (hi : (go_tys w)[i]? = some (w.2.2.1 i, ty)) (h5 : i < 5) (hne : ∀ x, ty ≠ .object x) : cA = w.2.2.1 i := by
  have a1 := (hK.2 i (w.2.2.1 i, ty) (by rw [List.getElem?_append_left (by exact h5)]; exact hi)).2
  have a2 := (hK.2 5 (cA, ty) rfl).2
  cases ty with
  | object x => exact absurd rfl (hne x)
  | _ => exact Option.some.inj (Eq.trans (Eq.symm a2) a1)
theorem go_newI {n : Int32} {N : Nat} (hd : decode μ.2.2.1 pc = .ok (.newarray .int, 2)) (harr : Cond.arrayClass .int ∈ go_all) (hn : ¬ n < 0) (hN : n.toNatClampNeg = N) (hb : N ≤ 100000) (hZ : go_up Z) (hlen : M.1.length < 1000000) (hw : go_wm M) (hst : ∀ v ∈ st, go_wv M.1.length v) (hlv : ∀ x ∈ lv, go_wv M.1.length x.2) (k : Go w d bc bs μ (pc + 2) lv (.ref M.1.length :: st) (go_nw M (100, N)) Z) : Go w d (1 + bc) (N + bs) μ pc lv (.int n :: st) M Z := by
  intro p e R s m args below meth cd H ls locs cells slots ad C h1 h2 hR hS hl
  have hts := C.2.2.2.2.1
  have hI := C.2.2.2.2.2.2.2.2.1
  refine va_newa (atype := .int) (ty := .int) (a0 := (N, .inl (fun _ => 0))) C.1 C.2.1 (hts _ harr) rfl hI.1 hR.2.2.1 hR.2.2.2 hS (fun q hq => Nat.le_trans hI.2.2.2.2.1 hq) (fun _ => rfl) hn hN (by show N * 4 ≤ _; omega) (by omega) (by omega) hd (fun q cA H1 hK hP hD hS1 => ?_)
  have hc := go_cA (i := 0) hK rfl (by omega) (fun x h => by cases h)
  have e1 : go_e w (ad ++ [q]) (go_nw M (100, N)) M.1.length (100, N) = .inl (cA, N, .inl (fun _ => 0)) := by
    show Sum.inl (w.2.2.1 0, N, Sum.inl ((go_nw M (100, N)).2.1 M.1.length)) = _
    rw [show (go_nw M (100, N)).2.1 M.1.length = fun _ => 0 from if_pos rfl, hc]
  rw [← e1] at hP hD
  exact go_made hZ hlen hw hst hlv C h1 h2 hR.1 hl hP hD hS1 k
theorem go_newZ {n : Int32} {N : Nat} (hd : decode μ.2.2.1 pc = .ok (.newarray .boolean, 2)) (harr : Cond.arrayClass .boolean ∈ go_all) (hn : ¬ n < 0) (hN : n.toNatClampNeg = N) (hb : N ≤ 100000) (hZ : go_up Z) (hlen : M.1.length < 1000000) (hw : go_wm M) (hst : ∀ v ∈ st, go_wv M.1.length v) (hlv : ∀ x ∈ lv, go_wv M.1.length x.2) (k : Go w d bc bs μ (pc + 2) lv (.ref M.1.length :: st) (go_nw M (102, N)) Z) : Go w d (1 + bc) (N + bs) μ pc lv (.int n :: st) M Z := by
  intro p e R s m args below meth cd H ls locs cells slots ad C h1 h2 hR hS hl
  have hts := C.2.2.2.2.1
  have hI := C.2.2.2.2.2.2.2.2.1
  refine va_newa (atype := .boolean) (ty := .boolean) (a0 := (N, .inl (fun _ => 0))) C.1 C.2.1 (hts _ harr) rfl hI.1 hR.2.2.1 hR.2.2.2 hS (fun q hq => Nat.le_trans hI.2.2.2.2.1 hq) (fun _ => rfl) hn hN (by show N * 1 ≤ _; omega) (by omega) (by omega) hd (fun q cA H1 hK hP hD hS1 => ?_)
  have hc := go_cA (i := 2) hK rfl (by omega) (fun x h => by cases h)
  have e1 : go_e w (ad ++ [q]) (go_nw M (102, N)) M.1.length (102, N) = .inl (cA, N, .inl (fun _ => 0)) := by
    show Sum.inl (w.2.2.1 2, N, Sum.inl ((go_nw M (102, N)).2.1 M.1.length)) = _
    rw [show (go_nw M (102, N)).2.1 M.1.length = fun _ => 0 from if_pos rfl, hc]
  rw [← e1] at hP hD
  exact go_made hZ hlen hw hst hlv C h1 h2 hR.1 hl hP hD hS1 k
theorem go_newJ {n : Int32} {N : Nat} (hd : decode μ.2.2.1 pc = .ok (.newarray .long, 2)) (harr : Cond.arrayClass .long ∈ go_all) (hn : ¬ n < 0) (hN : n.toNatClampNeg = N) (hb : N ≤ 100000) (hZ : go_up Z) (hlen : M.1.length < 1000000) (hw : go_wm M) (hst : ∀ v ∈ st, go_wv M.1.length v) (hlv : ∀ x ∈ lv, go_wv M.1.length x.2) (k : Go w d bc bs μ (pc + 2) lv (.ref M.1.length :: st) (go_nw M (101, N)) Z) : Go w d (1 + bc) (N + bs) μ pc lv (.int n :: st) M Z := by
  intro p e R s m args below meth cd H ls locs cells slots ad C h1 h2 hR hS hl
  have hts := C.2.2.2.2.1
  have hI := C.2.2.2.2.2.2.2.2.1
  refine va_newa (atype := .long) (ty := .long) (a0 := (N, .inr (.inl (fun _ => 0)))) C.1 C.2.1 (hts _ harr) rfl hI.1 hR.2.2.1 hR.2.2.2 hS (fun q hq => Nat.le_trans hI.2.2.2.2.1 hq) (fun _ => rfl) hn hN (by show N * 8 ≤ _; omega) (by omega) (by omega) hd (fun q cA H1 hK hP hD hS1 => ?_)
  have hc := go_cA (i := 1) hK rfl (by omega) (fun x h => by cases h)
  have e1 : go_e w (ad ++ [q]) (go_nw M (101, N)) M.1.length (101, N) = .inl (cA, N, .inr (.inl (fun _ => 0))) := by
    show Sum.inl (w.2.2.1 1, N, Sum.inr (Sum.inl ((go_nw M (101, N)).2.2.1 M.1.length))) = _
    rw [show (go_nw M (101, N)).2.2.1 M.1.length = fun _ => 0 from if_pos rfl, hc]
  rw [← e1] at hP hD
  exact go_made hZ hlen hw hst hlv C h1 h2 hR.1 hl hP hD hS1 k
theorem go_cAo {s : State} {cA : ClassId} {i : Nat} {X : String} (hK : va_K w.2.1 go_cl (go_tys w ++ [(cA, .object X)]) s) (hi : (go_tys w)[i]? = some (w.2.2.1 i, .object X)) (h5 : i < 5) : cA = w.2.2.1 i := by
  obtain ⟨_, _, _, _, _, a1⟩ := (hK.2 i (w.2.2.1 i, .object X) (by rw [List.getElem?_append_left (by exact h5)]; exact hi)).2
  obtain ⟨_, _, _, _, _, a2⟩ := (hK.2 5 (cA, .object X) rfl).2
  exact Option.some.inj (a2.symm.trans a1)
theorem go_newT {n : Int32} {N idx : Nat} (hd : decode μ.2.2.1 pc = .ok (.anewarray idx, 3)) (hcl : Cond.classLink μ.1 idx RX8 ∈ go_all) (hn : ¬ n < 0) (hN : n.toNatClampNeg = N) (hb : N ≤ 100000) (hZ : go_up Z) (hlen : M.1.length < 1000000) (hw : go_wm M) (hst : ∀ v ∈ st, go_wv M.1.length v) (hlv : ∀ x ∈ lv, go_wv M.1.length x.2) (k : Go w d bc bs μ (pc + 3) lv (.ref M.1.length :: st) (go_nw M (103, N)) Z) : Go w d (1 + bc) (N + bs) μ pc lv (.int n :: st) M Z := by
  intro p e R s m args below meth cd H ls locs cells slots ad C h1 h2 hR hS hl
  have hts := C.2.2.2.2.1
  have hI := C.2.2.2.2.2.2.2.2.1
  refine va_newq C.1 C.2.1 C.2.2.2.1 (hts _ hcl) hI.2.2.1 hI.1 hR.2.2.1 hR.2.2.2 hS (fun q hq => Nat.le_trans hI.2.2.2.2.1 hq) hn hN (by omega) (by omega) (by omega) hd (fun q cA H1 hK hP hD hS1 => ?_)
  have hc := go_cAo (i := 3) hK rfl (by omega)
  have e1 : go_e w (ad ++ [q]) (go_nw M (103, N)) M.1.length (103, N) = .inl (cA, N, .inr (.inr (.inr (.inr (fun _ => none))))) := by
    show Sum.inl (w.2.2.1 3, N, Sum.inr (Sum.inr (Sum.inr (Sum.inr (fun j => ((go_nw M (103, N)).2.2.2 M.1.length j).map _))))) = _
    rw [show (go_nw M (103, N)).2.2.2 M.1.length = fun _ => none from if_pos rfl, hc]
    rfl
  rw [← e1] at hP hD
  exact go_made hZ hlen hw hst hlv C h1 h2 hR.1 hl hP hD hS1 k
theorem go_newW {n : Int32} {N idx : Nat} (hd : decode μ.2.2.1 pc = .ok (.anewarray idx, 3)) (hcl : Cond.classLink μ.1 idx RX10 ∈ go_all) (hn : ¬ n < 0) (hN : n.toNatClampNeg = N) (hb : N ≤ 100000) (hZ : go_up Z) (hlen : M.1.length < 1000000) (hw : go_wm M) (hst : ∀ v ∈ st, go_wv M.1.length v) (hlv : ∀ x ∈ lv, go_wv M.1.length x.2) (k : Go w d bc bs μ (pc + 3) lv (.ref M.1.length :: st) (go_nw M (104, N)) Z) : Go w d (1 + bc) (N + bs) μ pc lv (.int n :: st) M Z := by
  intro p e R s m args below meth cd H ls locs cells slots ad C h1 h2 hR hS hl
  have hts := C.2.2.2.2.1
  have hI := C.2.2.2.2.2.2.2.2.1
  refine va_newq C.1 C.2.1 C.2.2.2.1 (hts _ hcl) hI.2.2.2.1 hI.1 hR.2.2.1 hR.2.2.2 hS (fun q hq => Nat.le_trans hI.2.2.2.2.1 hq) hn hN (by omega) (by omega) (by omega) hd (fun q cA H1 hK hP hD hS1 => ?_)
  have hc := go_cAo (i := 4) hK rfl (by omega)
  have e1 : go_e w (ad ++ [q]) (go_nw M (104, N)) M.1.length (104, N) = .inl (cA, N, .inr (.inr (.inr (.inr (fun _ => none))))) := by
    show Sum.inl (w.2.2.1 4, N, Sum.inr (Sum.inr (Sum.inr (Sum.inr (fun j => ((go_nw M (104, N)).2.2.2 M.1.length j).map _))))) = _
    rw [show (go_nw M (104, N)).2.2.2 M.1.length = fun _ => none from if_pos rfl, hc]
    rfl
  rw [← e1] at hP hD
  exact go_made hZ hlen hw hst hlv C h1 h2 hR.1 hl hP hD hS1 k
theorem go_astT {c n q nn : Nat} {i : Int32} (hd : decode μ.2.2.1 pc = .ok (.aastore, 1)) (hk : M.1[c]? = some (103, n)) (hq : M.1[q]? = some (8, nn)) (hin : vp_in i n) (k : Go w d bc bs μ (pc + 1) lv st (go_wr M c i.toNatClampNeg (some q)) Z) : Go w d bc bs μ pc lv (.ref q :: .int i :: .ref c :: st) M Z := by
  intro p e R s m args below meth cd H ls locs cells slots ad C h1 h2 hR hS hl
  show W _ _ _ _ _ _ _ _ _ _ _ _ _ _ _ (F0 m pc ls (.ref (go_ra w ad q) :: .int i :: .ref (go_ra w ad c) :: st.map (go_tv w ad)))
  rw [go_ra_in hR hk, go_ra_in hR hq]
  refine va_astq C.1 C.2.1 C.2.2.2.2.2.2.2.2.1.1 hR.2.2.1 hR.2.2.2 hS c 3 q 8 (r := (RX8, TX8, 8)) (go_at3 hk) rfl (go_ob hq (by omega)) rfl hin hd (fun H1 locs1 hP hD hS1 => ?_)
  refine k p e R s m args below meth cd H1 ls locs1 cells slots ad C h1 h2 (go_R_set hR rfl hk ?_ go_wr_o hP hD) hS1 hl
  show Sum.inl (w.2.2.1 3, n, Sum.inr (Sum.inr (Sum.inr (Sum.inr (fun j => ((go_wr M c i.toNatClampNeg (some q)).2.2.2 c j).map _))))) = _
  rw [go_wr_c]
  congr 7
  funext j
  unfold va_up
  by_cases hj : j = i.toNatClampNeg
  · rw [if_pos hj, if_pos hj, ← go_ra_in hR hq]; rfl
  · rw [if_neg hj, if_neg hj]
theorem go_astW {c n q nn : Nat} {i : Int32} (hd : decode μ.2.2.1 pc = .ok (.aastore, 1)) (hk : M.1[c]? = some (104, n)) (hq : M.1[q]? = some (10, nn)) (hin : vp_in i n) (k : Go w d bc bs μ (pc + 1) lv st (go_wr M c i.toNatClampNeg (some q)) Z) : Go w d bc bs μ pc lv (.ref q :: .int i :: .ref c :: st) M Z := by
  intro p e R s m args below meth cd H ls locs cells slots ad C h1 h2 hR hS hl
  show W _ _ _ _ _ _ _ _ _ _ _ _ _ _ _ (F0 m pc ls (.ref (go_ra w ad q) :: .int i :: .ref (go_ra w ad c) :: st.map (go_tv w ad)))
  rw [go_ra_in hR hk, go_ra_in hR hq]
  refine va_astq C.1 C.2.1 C.2.2.2.2.2.2.2.2.1.1 hR.2.2.1 hR.2.2.2 hS c 4 q 10 (r := (RX10, TX10, 11)) (go_at4 hk) rfl (go_ob hq (by omega)) rfl hin hd (fun H1 locs1 hP hD hS1 => ?_)
  refine k p e R s m args below meth cd H1 ls locs1 cells slots ad C h1 h2 (go_R_set hR rfl hk ?_ go_wr_o hP hD) hS1 hl
  show Sum.inl (w.2.2.1 4, n, Sum.inr (Sum.inr (Sum.inr (Sum.inr (fun j => ((go_wr M c i.toNatClampNeg (some q)).2.2.2 c j).map _))))) = _
  rw [go_wr_c]
  congr 7
  funext j
  unfold va_up
  by_cases hj : j = i.toNatClampNeg
  · rw [if_pos hj, if_pos hj, ← go_ra_in hR hq]; rfl
  · rw [if_neg hj, if_neg hj]
end GoNew
