theorem go_iconst {w : go_Wd} {d bc bs : Nat} {μ : go_Mt} {pc : Nat} {lv : List (Nat × Value)} {st : List Value} {M : go_M} {Z : go_ZT} {n : Int} {v : Int32} (hd : decode μ.2.2.1 pc = .ok (.iconst n, 1)) (hv : Int32.ofInt n = v)
    (k : Go w d bc bs μ (pc + 1) lv (.int v :: st) M Z) : Go w d bc bs μ pc lv st M Z := by
  intro p e R s m args below meth c H ls locs cells slots ad C h1 h2 hR hS hl
  exact lv_iconst C.1 C.2.1 hd hv (k p e R s m args below meth c H ls locs cells slots ad C h1 h2 hR hS hl)
theorem go_bipush {w : go_Wd} {d bc bs : Nat} {μ : go_Mt} {pc : Nat} {lv : List (Nat × Value)} {st : List Value} {M : go_M} {Z : go_ZT} {n : Int} {v : Int32} (hd : decode μ.2.2.1 pc = .ok (.bipush n, 2)) (hv : (Int8.ofInt n).toInt32 = v)
    (k : Go w d bc bs μ (pc + 2) lv (.int v :: st) M Z) : Go w d bc bs μ pc lv st M Z := by
  intro p e R s m args below meth c H ls locs cells slots ad C h1 h2 hR hS hl
  exact lv_bipush C.1 C.2.1 hd hv (k p e R s m args below meth c H ls locs cells slots ad C h1 h2 hR hS hl)
theorem go_sipush {w : go_Wd} {d bc bs : Nat} {μ : go_Mt} {pc : Nat} {lv : List (Nat × Value)} {st : List Value} {M : go_M} {Z : go_ZT} {n : Int} {v : Int32} (hd : decode μ.2.2.1 pc = .ok (.sipush n, 3)) (hv : (Int16.ofInt n).toInt32 = v)
    (k : Go w d bc bs μ (pc + 3) lv (.int v :: st) M Z) : Go w d bc bs μ pc lv st M Z := by
  intro p e R s m args below meth c H ls locs cells slots ad C h1 h2 hR hS hl
  exact lv_sipush C.1 C.2.1 hd hv (k p e R s m args below meth c H ls locs cells slots ad C h1 h2 hR hS hl)
theorem go_lconst {w : go_Wd} {d bc bs : Nat} {μ : go_Mt} {pc : Nat} {lv : List (Nat × Value)} {st : List Value} {M : go_M} {Z : go_ZT} {n : Fin 2} {v : Int64} (hd : decode μ.2.2.1 pc = .ok (.lconst n, 1)) (hv : Int64.ofNat (n : Nat) = v)
    (k : Go w d bc bs μ (pc + 1) lv (.long v :: st) M Z) : Go w d bc bs μ pc lv st M Z := by
  intro p e R s m args below meth c H ls locs cells slots ad C h1 h2 hR hS hl
  exact lv_lconst C.1 C.2.1 hd hv (k p e R s m args below meth c H ls locs cells slots ad C h1 h2 hR hS hl)
theorem go_null {w : go_Wd} {d bc bs : Nat} {μ : go_Mt} {pc : Nat} {lv : List (Nat × Value)} {st : List Value} {M : go_M} {Z : go_ZT}  (hd : decode μ.2.2.1 pc = .ok (.aconst_null, 1)) 
    (k : Go w d bc bs μ (pc + 1) lv (.null :: st) M Z) : Go w d bc bs μ pc lv st M Z := by
  intro p e R s m args below meth c H ls locs cells slots ad C h1 h2 hR hS hl
  exact lv_null C.1 C.2.1 hd (k p e R s m args below meth c H ls locs cells slots ad C h1 h2 hR hS hl)
theorem go_iload_n {w : go_Wd} {d bc bs : Nat} {μ : go_Mt} {pc : Nat} {lv : List (Nat × Value)} {st : List Value} {M : go_M} {Z : go_ZT} {kk : Fin 4} {x : Int32} (hd : decode μ.2.2.1 pc = .ok (.iload_n kk, 1)) (i : Nat) (hi : lv[i]? = some ((kk : Nat), .int x))
    (k : Go w d bc bs μ (pc + 1) lv (.int x :: st) M Z) : Go w d bc bs μ pc lv st M Z := by
  intro p e R s m args below meth c H ls locs cells slots ad C h1 h2 hR hS hl
  exact lv_iload_n C.1 C.2.1 hd rfl (go_at hl i hi) (k p e R s m args below meth c H ls locs cells slots ad C h1 h2 hR hS hl)
theorem go_iload {w : go_Wd} {d bc bs : Nat} {μ : go_Mt} {pc : Nat} {lv : List (Nat × Value)} {st : List Value} {M : go_M} {Z : go_ZT} {j : Nat} {x : Int32} (hd : decode μ.2.2.1 pc = .ok (.iload j, 2)) (i : Nat) (hi : lv[i]? = some (j, .int x))
    (k : Go w d bc bs μ (pc + 2) lv (.int x :: st) M Z) : Go w d bc bs μ pc lv st M Z := by
  intro p e R s m args below meth c H ls locs cells slots ad C h1 h2 hR hS hl
  exact lv_iload C.1 C.2.1 hd (go_at hl i hi) (k p e R s m args below meth c H ls locs cells slots ad C h1 h2 hR hS hl)
theorem go_lload_n {w : go_Wd} {d bc bs : Nat} {μ : go_Mt} {pc : Nat} {lv : List (Nat × Value)} {st : List Value} {M : go_M} {Z : go_ZT} {kk : Fin 4} {x : Int64} (hd : decode μ.2.2.1 pc = .ok (.lload_n kk, 1)) (i : Nat) (hi : lv[i]? = some ((kk : Nat), .long x))
    (k : Go w d bc bs μ (pc + 1) lv (.long x :: st) M Z) : Go w d bc bs μ pc lv st M Z := by
  intro p e R s m args below meth c H ls locs cells slots ad C h1 h2 hR hS hl
  exact lv_lload_n C.1 C.2.1 hd rfl (go_at hl i hi) (k p e R s m args below meth c H ls locs cells slots ad C h1 h2 hR hS hl)
theorem go_lload {w : go_Wd} {d bc bs : Nat} {μ : go_Mt} {pc : Nat} {lv : List (Nat × Value)} {st : List Value} {M : go_M} {Z : go_ZT} {j : Nat} {x : Int64} (hd : decode μ.2.2.1 pc = .ok (.lload j, 2)) (i : Nat) (hi : lv[i]? = some (j, .long x))
    (k : Go w d bc bs μ (pc + 2) lv (.long x :: st) M Z) : Go w d bc bs μ pc lv st M Z := by
  intro p e R s m args below meth c H ls locs cells slots ad C h1 h2 hR hS hl
  exact lv_lload C.1 C.2.1 hd (go_at hl i hi) (k p e R s m args below meth c H ls locs cells slots ad C h1 h2 hR hS hl)
theorem go_aload_n {w : go_Wd} {d bc bs : Nat} {μ : go_Mt} {pc : Nat} {lv : List (Nat × Value)} {st : List Value} {M : go_M} {Z : go_ZT} {kk : Fin 4} {x : Nat} (hd : decode μ.2.2.1 pc = .ok (.aload_n kk, 1)) (i : Nat) (hi : lv[i]? = some ((kk : Nat), .ref x))
    (k : Go w d bc bs μ (pc + 1) lv (.ref x :: st) M Z) : Go w d bc bs μ pc lv st M Z := by
  intro p e R s m args below meth c H ls locs cells slots ad C h1 h2 hR hS hl
  exact lv_aload_n C.1 C.2.1 hd rfl (go_at hl i hi) (k p e R s m args below meth c H ls locs cells slots ad C h1 h2 hR hS hl)
theorem go_aload {w : go_Wd} {d bc bs : Nat} {μ : go_Mt} {pc : Nat} {lv : List (Nat × Value)} {st : List Value} {M : go_M} {Z : go_ZT} {j : Nat} {x : Nat} (hd : decode μ.2.2.1 pc = .ok (.aload j, 2)) (i : Nat) (hi : lv[i]? = some (j, .ref x))
    (k : Go w d bc bs μ (pc + 2) lv (.ref x :: st) M Z) : Go w d bc bs μ pc lv st M Z := by
  intro p e R s m args below meth c H ls locs cells slots ad C h1 h2 hR hS hl
  exact lv_aload C.1 C.2.1 hd (go_at hl i hi) (k p e R s m args below meth c H ls locs cells slots ad C h1 h2 hR hS hl)
theorem go_aload_nN {w : go_Wd} {d bc bs : Nat} {μ : go_Mt} {pc : Nat} {lv : List (Nat × Value)} {st : List Value} {M : go_M} {Z : go_ZT} {kk : Fin 4} (hd : decode μ.2.2.1 pc = .ok (.aload_n kk, 1)) (i : Nat) (hi : lv[i]? = some ((kk : Nat), .null))
    (k : Go w d bc bs μ (pc + 1) lv (.null :: st) M Z) : Go w d bc bs μ pc lv st M Z := by
  intro p e R s m args below meth c H ls locs cells slots ad C h1 h2 hR hS hl
  exact lv_aload_nN C.1 C.2.1 hd rfl (go_at hl i hi) (k p e R s m args below meth c H ls locs cells slots ad C h1 h2 hR hS hl)
theorem go_aloadN {w : go_Wd} {d bc bs : Nat} {μ : go_Mt} {pc : Nat} {lv : List (Nat × Value)} {st : List Value} {M : go_M} {Z : go_ZT} {j : Nat} (hd : decode μ.2.2.1 pc = .ok (.aload j, 2)) (i : Nat) (hi : lv[i]? = some (j, .null))
    (k : Go w d bc bs μ (pc + 2) lv (.null :: st) M Z) : Go w d bc bs μ pc lv st M Z := by
  intro p e R s m args below meth c H ls locs cells slots ad C h1 h2 hR hS hl
  exact lv_aloadN C.1 C.2.1 hd (go_at hl i hi) (k p e R s m args below meth c H ls locs cells slots ad C h1 h2 hR hS hl)
theorem go_istore_n {w : go_Wd} {d bc bs : Nat} {μ : go_Mt} {pc : Nat} {lv : List (Nat × Value)} {st : List Value} {M : go_M} {Z : go_ZT} {kk : Fin 4} {x : Int32} {lv' : List (Nat × Value)} (hd : decode μ.2.2.1 pc = .ok (.istore_n kk, 1)) (hn : (kk : Nat) < μ.2.2.2.1) (hv : ((kk : Nat), Value.int x) :: lv.filter (fun q => !(q.1 == (kk : Nat)) && !(q.1 + 1 == (kk : Nat) && q.2.category == 2)) = lv')
    (k : Go w d bc bs μ (pc + 1) lv' st M Z) : Go w d bc bs μ pc lv (.int x :: st) M Z := by
  intro p e R s m args below meth c H ls locs cells slots ad C h1 h2 hR hS hl
  subst hv
  exact lv_istore_n C.1 C.2.1 hd rfl hl hn (by show (((kk : Nat), Value.int x) :: List.filter _ _) = ((kk : Nat), Value.int x) :: go_tl w ad _; rw [go_filt (fun a b => !(a == (kk : Nat)) && !(a + 1 == (kk : Nat) && b == 2))]) (fun ls' hl' => k p e R s m args below meth c H ls' locs cells slots ad C h1 h2 hR hS hl')
theorem go_istore {w : go_Wd} {d bc bs : Nat} {μ : go_Mt} {pc : Nat} {lv : List (Nat × Value)} {st : List Value} {M : go_M} {Z : go_ZT} {j : Nat} {x : Int32} {lv' : List (Nat × Value)} (hd : decode μ.2.2.1 pc = .ok (.istore j, 2)) (hn : j < μ.2.2.2.1) (hv : (j, Value.int x) :: lv.filter (fun q => !(q.1 == j) && !(q.1 + 1 == j && q.2.category == 2)) = lv')
    (k : Go w d bc bs μ (pc + 2) lv' st M Z) : Go w d bc bs μ pc lv (.int x :: st) M Z := by
  intro p e R s m args below meth c H ls locs cells slots ad C h1 h2 hR hS hl
  subst hv
  exact lv_istore C.1 C.2.1 hd hl hn (by show ((j, Value.int x) :: List.filter _ _) = (j, Value.int x) :: go_tl w ad _; rw [go_filt (fun a b => !(a == j) && !(a + 1 == j && b == 2))]) (fun ls' hl' => k p e R s m args below meth c H ls' locs cells slots ad C h1 h2 hR hS hl')
theorem go_lstore_n {w : go_Wd} {d bc bs : Nat} {μ : go_Mt} {pc : Nat} {lv : List (Nat × Value)} {st : List Value} {M : go_M} {Z : go_ZT} {kk : Fin 4} {x : Int64} {lv' : List (Nat × Value)} (hd : decode μ.2.2.1 pc = .ok (.lstore_n kk, 1)) (hn : (kk : Nat) + 1 < μ.2.2.2.1) (hv : ((kk : Nat), Value.long x) :: lv.filter (fun q => !(q.1 == (kk : Nat)) && (!(q.1 == (kk : Nat) + 1) && !(q.1 + 1 == (kk : Nat) && q.2.category == 2))) = lv')
    (k : Go w d bc bs μ (pc + 1) lv' st M Z) : Go w d bc bs μ pc lv (.long x :: st) M Z := by
  intro p e R s m args below meth c H ls locs cells slots ad C h1 h2 hR hS hl
  subst hv
  exact lv_lstore_n C.1 C.2.1 hd rfl hl hn (by show (((kk : Nat), Value.long x) :: List.filter _ _) = ((kk : Nat), Value.long x) :: go_tl w ad _; rw [go_filt (fun a b => !(a == (kk : Nat)) && (!(a == (kk : Nat) + 1) && !(a + 1 == (kk : Nat) && b == 2)))]) (fun ls' hl' => k p e R s m args below meth c H ls' locs cells slots ad C h1 h2 hR hS hl')
theorem go_lstore {w : go_Wd} {d bc bs : Nat} {μ : go_Mt} {pc : Nat} {lv : List (Nat × Value)} {st : List Value} {M : go_M} {Z : go_ZT} {j : Nat} {x : Int64} {lv' : List (Nat × Value)} (hd : decode μ.2.2.1 pc = .ok (.lstore j, 2)) (hn : j + 1 < μ.2.2.2.1) (hv : (j, Value.long x) :: lv.filter (fun q => !(q.1 == j) && (!(q.1 == j + 1) && !(q.1 + 1 == j && q.2.category == 2))) = lv')
    (k : Go w d bc bs μ (pc + 2) lv' st M Z) : Go w d bc bs μ pc lv (.long x :: st) M Z := by
  intro p e R s m args below meth c H ls locs cells slots ad C h1 h2 hR hS hl
  subst hv
  exact lv_lstore C.1 C.2.1 hd hl hn (by show ((j, Value.long x) :: List.filter _ _) = (j, Value.long x) :: go_tl w ad _; rw [go_filt (fun a b => !(a == j) && (!(a == j + 1) && !(a + 1 == j && b == 2)))]) (fun ls' hl' => k p e R s m args below meth c H ls' locs cells slots ad C h1 h2 hR hS hl')
theorem go_astore_n {w : go_Wd} {d bc bs : Nat} {μ : go_Mt} {pc : Nat} {lv : List (Nat × Value)} {st : List Value} {M : go_M} {Z : go_ZT} {kk : Fin 4} {x : Nat} {lv' : List (Nat × Value)} (hd : decode μ.2.2.1 pc = .ok (.astore_n kk, 1)) (hn : (kk : Nat) < μ.2.2.2.1) (hv : ((kk : Nat), Value.ref x) :: lv.filter (fun q => !(q.1 == (kk : Nat)) && !(q.1 + 1 == (kk : Nat) && q.2.category == 2)) = lv')
    (k : Go w d bc bs μ (pc + 1) lv' st M Z) : Go w d bc bs μ pc lv (.ref x :: st) M Z := by
  intro p e R s m args below meth c H ls locs cells slots ad C h1 h2 hR hS hl
  subst hv
  exact lv_astore_n C.1 C.2.1 hd rfl hl hn (by show (((kk : Nat), Value.ref (go_ra w ad x)) :: List.filter _ _) = ((kk : Nat), Value.ref (go_ra w ad x)) :: go_tl w ad _; rw [go_filt (fun a b => !(a == (kk : Nat)) && !(a + 1 == (kk : Nat) && b == 2))]) (fun ls' hl' => k p e R s m args below meth c H ls' locs cells slots ad C h1 h2 hR hS hl')
theorem go_astore {w : go_Wd} {d bc bs : Nat} {μ : go_Mt} {pc : Nat} {lv : List (Nat × Value)} {st : List Value} {M : go_M} {Z : go_ZT} {j : Nat} {x : Nat} {lv' : List (Nat × Value)} (hd : decode μ.2.2.1 pc = .ok (.astore j, 2)) (hn : j < μ.2.2.2.1) (hv : (j, Value.ref x) :: lv.filter (fun q => !(q.1 == j) && !(q.1 + 1 == j && q.2.category == 2)) = lv')
    (k : Go w d bc bs μ (pc + 2) lv' st M Z) : Go w d bc bs μ pc lv (.ref x :: st) M Z := by
  intro p e R s m args below meth c H ls locs cells slots ad C h1 h2 hR hS hl
  subst hv
  exact lv_astore C.1 C.2.1 hd hl hn (by show ((j, Value.ref (go_ra w ad x)) :: List.filter _ _) = (j, Value.ref (go_ra w ad x)) :: go_tl w ad _; rw [go_filt (fun a b => !(a == j) && !(a + 1 == j && b == 2))]) (fun ls' hl' => k p e R s m args below meth c H ls' locs cells slots ad C h1 h2 hR hS hl')
theorem go_astore_nN {w : go_Wd} {d bc bs : Nat} {μ : go_Mt} {pc : Nat} {lv : List (Nat × Value)} {st : List Value} {M : go_M} {Z : go_ZT} {kk : Fin 4} {lv' : List (Nat × Value)} (hd : decode μ.2.2.1 pc = .ok (.astore_n kk, 1)) (hn : (kk : Nat) < μ.2.2.2.1) (hv : ((kk : Nat), Value.null) :: lv.filter (fun q => !(q.1 == (kk : Nat)) && !(q.1 + 1 == (kk : Nat) && q.2.category == 2)) = lv')
    (k : Go w d bc bs μ (pc + 1) lv' st M Z) : Go w d bc bs μ pc lv (.null :: st) M Z := by
  intro p e R s m args below meth c H ls locs cells slots ad C h1 h2 hR hS hl
  subst hv
  exact lv_astore_nN C.1 C.2.1 hd rfl hl hn (by show (((kk : Nat), Value.null) :: List.filter _ _) = ((kk : Nat), Value.null) :: go_tl w ad _; rw [go_filt (fun a b => !(a == (kk : Nat)) && !(a + 1 == (kk : Nat) && b == 2))]) (fun ls' hl' => k p e R s m args below meth c H ls' locs cells slots ad C h1 h2 hR hS hl')
theorem go_astoreN {w : go_Wd} {d bc bs : Nat} {μ : go_Mt} {pc : Nat} {lv : List (Nat × Value)} {st : List Value} {M : go_M} {Z : go_ZT} {j : Nat} {lv' : List (Nat × Value)} (hd : decode μ.2.2.1 pc = .ok (.astore j, 2)) (hn : j < μ.2.2.2.1) (hv : (j, Value.null) :: lv.filter (fun q => !(q.1 == j) && !(q.1 + 1 == j && q.2.category == 2)) = lv')
    (k : Go w d bc bs μ (pc + 2) lv' st M Z) : Go w d bc bs μ pc lv (.null :: st) M Z := by
  intro p e R s m args below meth c H ls locs cells slots ad C h1 h2 hR hS hl
  subst hv
  exact lv_astoreN C.1 C.2.1 hd hl hn (by show ((j, Value.null) :: List.filter _ _) = (j, Value.null) :: go_tl w ad _; rw [go_filt (fun a b => !(a == j) && !(a + 1 == j && b == 2))]) (fun ls' hl' => k p e R s m args below meth c H ls' locs cells slots ad C h1 h2 hR hS hl')
theorem go_iinc {w : go_Wd} {d bc bs : Nat} {μ : go_Mt} {pc : Nat} {lv : List (Nat × Value)} {st : List Value} {M : go_M} {Z : go_ZT} {j : Nat} {n : Int} {x v : Int32} {lv' : List (Nat × Value)} (hd : decode μ.2.2.1 pc = .ok (.iinc j n, 3)) (i : Nat) (hi : lv[i]? = some (j, .int x)) (hx : x + Int32.ofInt n = v) (hn : j < μ.2.2.2.1) (hv : (j, Value.int v) :: lv.filter (fun q => !(q.1 == j) && !(q.1 + 1 == j && q.2.category == 2)) = lv')
    (k : Go w d bc bs μ (pc + 3) lv' st M Z) : Go w d bc bs μ pc lv st M Z := by
  intro p e R s m args below meth c H ls locs cells slots ad C h1 h2 hR hS hl
  subst hv
  exact lv_iinc C.1 C.2.1 hd hl (k := i) (by unfold go_tl; rw [List.getElem?_map, hi]; rfl) hx hn (by show ((j, Value.int v) :: List.filter _ _) = (j, Value.int v) :: go_tl w ad _; rw [go_filt (fun a b => !(a == j) && !(a + 1 == j && b == 2))]) (fun ls' hl' => k p e R s m args below meth c H ls' locs cells slots ad C h1 h2 hR hS hl')
theorem go_iadd {w : go_Wd} {d bc bs : Nat} {μ : go_Mt} {pc : Nat} {lv : List (Nat × Value)} {st : List Value} {M : go_M} {Z : go_ZT} {x y : Int32} (hd : decode μ.2.2.1 pc = .ok (.iadd, 1)) 
    (k : Go w d bc bs μ (pc + 1) lv (.int (x + y) :: st) M Z) : Go w d bc bs μ pc lv (.int y :: .int x :: st) M Z := by
  intro p e R s m args below meth c H ls locs cells slots ad C h1 h2 hR hS hl
  exact lv_iadd C.1 C.2.1 hd (k p e R s m args below meth c H ls locs cells slots ad C h1 h2 hR hS hl)
theorem go_isub {w : go_Wd} {d bc bs : Nat} {μ : go_Mt} {pc : Nat} {lv : List (Nat × Value)} {st : List Value} {M : go_M} {Z : go_ZT} {x y : Int32} (hd : decode μ.2.2.1 pc = .ok (.isub, 1)) 
    (k : Go w d bc bs μ (pc + 1) lv (.int (x - y) :: st) M Z) : Go w d bc bs μ pc lv (.int y :: .int x :: st) M Z := by
  intro p e R s m args below meth c H ls locs cells slots ad C h1 h2 hR hS hl
  exact lv_isub C.1 C.2.1 hd (k p e R s m args below meth c H ls locs cells slots ad C h1 h2 hR hS hl)
theorem go_imul {w : go_Wd} {d bc bs : Nat} {μ : go_Mt} {pc : Nat} {lv : List (Nat × Value)} {st : List Value} {M : go_M} {Z : go_ZT} {x y : Int32} (hd : decode μ.2.2.1 pc = .ok (.imul, 1)) 
    (k : Go w d bc bs μ (pc + 1) lv (.int (x * y) :: st) M Z) : Go w d bc bs μ pc lv (.int y :: .int x :: st) M Z := by
  intro p e R s m args below meth c H ls locs cells slots ad C h1 h2 hR hS hl
  exact lv_imul C.1 C.2.1 hd (k p e R s m args below meth c H ls locs cells slots ad C h1 h2 hR hS hl)
theorem go_iand {w : go_Wd} {d bc bs : Nat} {μ : go_Mt} {pc : Nat} {lv : List (Nat × Value)} {st : List Value} {M : go_M} {Z : go_ZT} {x y : Int32} (hd : decode μ.2.2.1 pc = .ok (.iand, 1)) 
    (k : Go w d bc bs μ (pc + 1) lv (.int (x &&& y) :: st) M Z) : Go w d bc bs μ pc lv (.int y :: .int x :: st) M Z := by
  intro p e R s m args below meth c H ls locs cells slots ad C h1 h2 hR hS hl
  exact lv_iand C.1 C.2.1 hd (k p e R s m args below meth c H ls locs cells slots ad C h1 h2 hR hS hl)
theorem go_ior {w : go_Wd} {d bc bs : Nat} {μ : go_Mt} {pc : Nat} {lv : List (Nat × Value)} {st : List Value} {M : go_M} {Z : go_ZT} {x y : Int32} (hd : decode μ.2.2.1 pc = .ok (.ior, 1)) 
    (k : Go w d bc bs μ (pc + 1) lv (.int (x ||| y) :: st) M Z) : Go w d bc bs μ pc lv (.int y :: .int x :: st) M Z := by
  intro p e R s m args below meth c H ls locs cells slots ad C h1 h2 hR hS hl
  exact lv_ior C.1 C.2.1 hd (k p e R s m args below meth c H ls locs cells slots ad C h1 h2 hR hS hl)
theorem go_ixor {w : go_Wd} {d bc bs : Nat} {μ : go_Mt} {pc : Nat} {lv : List (Nat × Value)} {st : List Value} {M : go_M} {Z : go_ZT} {x y : Int32} (hd : decode μ.2.2.1 pc = .ok (.ixor, 1)) 
    (k : Go w d bc bs μ (pc + 1) lv (.int (x ^^^ y) :: st) M Z) : Go w d bc bs μ pc lv (.int y :: .int x :: st) M Z := by
  intro p e R s m args below meth c H ls locs cells slots ad C h1 h2 hR hS hl
  exact lv_ixor C.1 C.2.1 hd (k p e R s m args below meth c H ls locs cells slots ad C h1 h2 hR hS hl)
theorem go_ishl {w : go_Wd} {d bc bs : Nat} {μ : go_Mt} {pc : Nat} {lv : List (Nat × Value)} {st : List Value} {M : go_M} {Z : go_ZT} {x y : Int32} (hd : decode μ.2.2.1 pc = .ok (.ishl, 1)) 
    (k : Go w d bc bs μ (pc + 1) lv (.int (x <<< (y &&& 31)) :: st) M Z) : Go w d bc bs μ pc lv (.int y :: .int x :: st) M Z := by
  intro p e R s m args below meth c H ls locs cells slots ad C h1 h2 hR hS hl
  exact lv_ishl C.1 C.2.1 hd (k p e R s m args below meth c H ls locs cells slots ad C h1 h2 hR hS hl)
theorem go_ishr {w : go_Wd} {d bc bs : Nat} {μ : go_Mt} {pc : Nat} {lv : List (Nat × Value)} {st : List Value} {M : go_M} {Z : go_ZT} {x y : Int32} (hd : decode μ.2.2.1 pc = .ok (.ishr, 1)) 
    (k : Go w d bc bs μ (pc + 1) lv (.int (x >>> (y &&& 31)) :: st) M Z) : Go w d bc bs μ pc lv (.int y :: .int x :: st) M Z := by
  intro p e R s m args below meth c H ls locs cells slots ad C h1 h2 hR hS hl
  exact lv_ishr C.1 C.2.1 hd (k p e R s m args below meth c H ls locs cells slots ad C h1 h2 hR hS hl)
theorem go_idiv {w : go_Wd} {d bc bs : Nat} {μ : go_Mt} {pc : Nat} {lv : List (Nat × Value)} {st : List Value} {M : go_M} {Z : go_ZT} {x y : Int32} (hd : decode μ.2.2.1 pc = .ok (.idiv, 1)) (hne : ¬ y = 0)
    (k : Go w d bc bs μ (pc + 1) lv (.int (x / y) :: st) M Z) : Go w d bc bs μ pc lv (.int y :: .int x :: st) M Z := by
  intro p e R s m args below meth c H ls locs cells slots ad C h1 h2 hR hS hl
  exact lv_idiv C.1 C.2.1 hd hne (k p e R s m args below meth c H ls locs cells slots ad C h1 h2 hR hS hl)
theorem go_irem {w : go_Wd} {d bc bs : Nat} {μ : go_Mt} {pc : Nat} {lv : List (Nat × Value)} {st : List Value} {M : go_M} {Z : go_ZT} {x y : Int32} (hd : decode μ.2.2.1 pc = .ok (.irem, 1)) (hne : ¬ y = 0)
    (k : Go w d bc bs μ (pc + 1) lv (.int (x - x / y * y) :: st) M Z) : Go w d bc bs μ pc lv (.int y :: .int x :: st) M Z := by
  intro p e R s m args below meth c H ls locs cells slots ad C h1 h2 hR hS hl
  exact lv_irem C.1 C.2.1 hd hne (k p e R s m args below meth c H ls locs cells slots ad C h1 h2 hR hS hl)
theorem go_ineg {w : go_Wd} {d bc bs : Nat} {μ : go_Mt} {pc : Nat} {lv : List (Nat × Value)} {st : List Value} {M : go_M} {Z : go_ZT} {x : Int32} (hd : decode μ.2.2.1 pc = .ok (.ineg, 1)) 
    (k : Go w d bc bs μ (pc + 1) lv (.int (-x) :: st) M Z) : Go w d bc bs μ pc lv (.int x :: st) M Z := by
  intro p e R s m args below meth c H ls locs cells slots ad C h1 h2 hR hS hl
  exact lv_ineg C.1 C.2.1 hd (k p e R s m args below meth c H ls locs cells slots ad C h1 h2 hR hS hl)
theorem go_iushr {w : go_Wd} {d bc bs : Nat} {μ : go_Mt} {pc : Nat} {lv : List (Nat × Value)} {st : List Value} {M : go_M} {Z : go_ZT} {x y v : Int32} (hd : decode μ.2.2.1 pc = .ok (.iushr, 1)) (hv : (x.toUInt32 >>> (y.toUInt32 &&& Int32.toUInt32 31)).toInt32 = v)
    (k : Go w d bc bs μ (pc + 1) lv (.int v :: st) M Z) : Go w d bc bs μ pc lv (.int y :: .int x :: st) M Z := by
  intro p e R s m args below meth c H ls locs cells slots ad C h1 h2 hR hS hl
  exact lv_iushr C.1 C.2.1 hd hv (k p e R s m args below meth c H ls locs cells slots ad C h1 h2 hR hS hl)
theorem go_ladd {w : go_Wd} {d bc bs : Nat} {μ : go_Mt} {pc : Nat} {lv : List (Nat × Value)} {st : List Value} {M : go_M} {Z : go_ZT} {x y : Int64} (hd : decode μ.2.2.1 pc = .ok (.ladd, 1)) 
    (k : Go w d bc bs μ (pc + 1) lv (.long (x + y) :: st) M Z) : Go w d bc bs μ pc lv (.long y :: .long x :: st) M Z := by
  intro p e R s m args below meth c H ls locs cells slots ad C h1 h2 hR hS hl
  exact lv_ladd C.1 C.2.1 hd (k p e R s m args below meth c H ls locs cells slots ad C h1 h2 hR hS hl)
theorem go_lsub {w : go_Wd} {d bc bs : Nat} {μ : go_Mt} {pc : Nat} {lv : List (Nat × Value)} {st : List Value} {M : go_M} {Z : go_ZT} {x y : Int64} (hd : decode μ.2.2.1 pc = .ok (.lsub, 1)) 
    (k : Go w d bc bs μ (pc + 1) lv (.long (x - y) :: st) M Z) : Go w d bc bs μ pc lv (.long y :: .long x :: st) M Z := by
  intro p e R s m args below meth c H ls locs cells slots ad C h1 h2 hR hS hl
  exact lv_lsub C.1 C.2.1 hd (k p e R s m args below meth c H ls locs cells slots ad C h1 h2 hR hS hl)
theorem go_lmul {w : go_Wd} {d bc bs : Nat} {μ : go_Mt} {pc : Nat} {lv : List (Nat × Value)} {st : List Value} {M : go_M} {Z : go_ZT} {x y : Int64} (hd : decode μ.2.2.1 pc = .ok (.lmul, 1)) 
    (k : Go w d bc bs μ (pc + 1) lv (.long (x * y) :: st) M Z) : Go w d bc bs μ pc lv (.long y :: .long x :: st) M Z := by
  intro p e R s m args below meth c H ls locs cells slots ad C h1 h2 hR hS hl
  exact lv_lmul C.1 C.2.1 hd (k p e R s m args below meth c H ls locs cells slots ad C h1 h2 hR hS hl)
theorem go_lor {w : go_Wd} {d bc bs : Nat} {μ : go_Mt} {pc : Nat} {lv : List (Nat × Value)} {st : List Value} {M : go_M} {Z : go_ZT} {x y : Int64} (hd : decode μ.2.2.1 pc = .ok (.lor, 1)) 
    (k : Go w d bc bs μ (pc + 1) lv (.long (x ||| y) :: st) M Z) : Go w d bc bs μ pc lv (.long y :: .long x :: st) M Z := by
  intro p e R s m args below meth c H ls locs cells slots ad C h1 h2 hR hS hl
  exact lv_lor C.1 C.2.1 hd (k p e R s m args below meth c H ls locs cells slots ad C h1 h2 hR hS hl)
theorem go_land {w : go_Wd} {d bc bs : Nat} {μ : go_Mt} {pc : Nat} {lv : List (Nat × Value)} {st : List Value} {M : go_M} {Z : go_ZT} {x y : Int64} (hd : decode μ.2.2.1 pc = .ok (.land, 1)) 
    (k : Go w d bc bs μ (pc + 1) lv (.long (x &&& y) :: st) M Z) : Go w d bc bs μ pc lv (.long y :: .long x :: st) M Z := by
  intro p e R s m args below meth c H ls locs cells slots ad C h1 h2 hR hS hl
  exact lv_land C.1 C.2.1 hd (k p e R s m args below meth c H ls locs cells slots ad C h1 h2 hR hS hl)
theorem go_ldiv {w : go_Wd} {d bc bs : Nat} {μ : go_Mt} {pc : Nat} {lv : List (Nat × Value)} {st : List Value} {M : go_M} {Z : go_ZT} {x y : Int64} (hd : decode μ.2.2.1 pc = .ok (.ldiv, 1)) (hne : ¬ y = 0)
    (k : Go w d bc bs μ (pc + 1) lv (.long (x / y) :: st) M Z) : Go w d bc bs μ pc lv (.long y :: .long x :: st) M Z := by
  intro p e R s m args below meth c H ls locs cells slots ad C h1 h2 hR hS hl
  exact lv_ldiv C.1 C.2.1 hd hne (k p e R s m args below meth c H ls locs cells slots ad C h1 h2 hR hS hl)
theorem go_lrem {w : go_Wd} {d bc bs : Nat} {μ : go_Mt} {pc : Nat} {lv : List (Nat × Value)} {st : List Value} {M : go_M} {Z : go_ZT} {x y : Int64} (hd : decode μ.2.2.1 pc = .ok (.lrem, 1)) (hne : ¬ y = 0)
    (k : Go w d bc bs μ (pc + 1) lv (.long (x - x / y * y) :: st) M Z) : Go w d bc bs μ pc lv (.long y :: .long x :: st) M Z := by
  intro p e R s m args below meth c H ls locs cells slots ad C h1 h2 hR hS hl
  exact lv_lrem C.1 C.2.1 hd hne (k p e R s m args below meth c H ls locs cells slots ad C h1 h2 hR hS hl)
theorem go_lneg {w : go_Wd} {d bc bs : Nat} {μ : go_Mt} {pc : Nat} {lv : List (Nat × Value)} {st : List Value} {M : go_M} {Z : go_ZT} {x : Int64} (hd : decode μ.2.2.1 pc = .ok (.lneg, 1)) 
    (k : Go w d bc bs μ (pc + 1) lv (.long (-x) :: st) M Z) : Go w d bc bs μ pc lv (.long x :: st) M Z := by
  intro p e R s m args below meth c H ls locs cells slots ad C h1 h2 hR hS hl
  exact lv_lneg C.1 C.2.1 hd (k p e R s m args below meth c H ls locs cells slots ad C h1 h2 hR hS hl)
theorem go_lshl {w : go_Wd} {d bc bs : Nat} {μ : go_Mt} {pc : Nat} {lv : List (Nat × Value)} {st : List Value} {M : go_M} {Z : go_ZT} {x : Int64} {y : Int32} (hd : decode μ.2.2.1 pc = .ok (.lshl, 1)) 
    (k : Go w d bc bs μ (pc + 1) lv (.long (x <<< (y.toInt64 &&& 63)) :: st) M Z) : Go w d bc bs μ pc lv (.int y :: .long x :: st) M Z := by
  intro p e R s m args below meth c H ls locs cells slots ad C h1 h2 hR hS hl
  exact lv_lshl C.1 C.2.1 hd rfl (k p e R s m args below meth c H ls locs cells slots ad C h1 h2 hR hS hl)
theorem go_lshr {w : go_Wd} {d bc bs : Nat} {μ : go_Mt} {pc : Nat} {lv : List (Nat × Value)} {st : List Value} {M : go_M} {Z : go_ZT} {x : Int64} {y : Int32} (hd : decode μ.2.2.1 pc = .ok (.lshr, 1)) 
    (k : Go w d bc bs μ (pc + 1) lv (.long (x >>> (y.toInt64 &&& 63)) :: st) M Z) : Go w d bc bs μ pc lv (.int y :: .long x :: st) M Z := by
  intro p e R s m args below meth c H ls locs cells slots ad C h1 h2 hR hS hl
  exact lv_lshr C.1 C.2.1 hd rfl (k p e R s m args below meth c H ls locs cells slots ad C h1 h2 hR hS hl)
theorem go_i2l {w : go_Wd} {d bc bs : Nat} {μ : go_Mt} {pc : Nat} {lv : List (Nat × Value)} {st : List Value} {M : go_M} {Z : go_ZT} {x : Int32} (hd : decode μ.2.2.1 pc = .ok (.i2l, 1)) 
    (k : Go w d bc bs μ (pc + 1) lv (.long x.toInt64 :: st) M Z) : Go w d bc bs μ pc lv (.int x :: st) M Z := by
  intro p e R s m args below meth c H ls locs cells slots ad C h1 h2 hR hS hl
  exact lv_i2l C.1 C.2.1 hd rfl (k p e R s m args below meth c H ls locs cells slots ad C h1 h2 hR hS hl)
theorem go_l2i {w : go_Wd} {d bc bs : Nat} {μ : go_Mt} {pc : Nat} {lv : List (Nat × Value)} {st : List Value} {M : go_M} {Z : go_ZT} {x : Int64} (hd : decode μ.2.2.1 pc = .ok (.l2i, 1)) 
    (k : Go w d bc bs μ (pc + 1) lv (.int x.toInt32 :: st) M Z) : Go w d bc bs μ pc lv (.long x :: st) M Z := by
  intro p e R s m args below meth c H ls locs cells slots ad C h1 h2 hR hS hl
  exact lv_l2i C.1 C.2.1 hd rfl (k p e R s m args below meth c H ls locs cells slots ad C h1 h2 hR hS hl)
theorem go_i2c {w : go_Wd} {d bc bs : Nat} {μ : go_Mt} {pc : Nat} {lv : List (Nat × Value)} {st : List Value} {M : go_M} {Z : go_ZT} {x : Int32} (hd : decode μ.2.2.1 pc = .ok (.i2c, 1)) 
    (k : Go w d bc bs μ (pc + 1) lv (.int (x.toUInt32 % 65536).toInt32 :: st) M Z) : Go w d bc bs μ pc lv (.int x :: st) M Z := by
  intro p e R s m args below meth c H ls locs cells slots ad C h1 h2 hR hS hl
  exact lv_i2c C.1 C.2.1 hd rfl (k p e R s m args below meth c H ls locs cells slots ad C h1 h2 hR hS hl)
theorem go_lcmp {w : go_Wd} {d bc bs : Nat} {μ : go_Mt} {pc : Nat} {lv : List (Nat × Value)} {st : List Value} {M : go_M} {Z : go_ZT} {x y : Int64} (hd : decode μ.2.2.1 pc = .ok (.lcmp, 1)) 
    (k : Go w d bc bs μ (pc + 1) lv (.int (lg_cmp x y) :: st) M Z) : Go w d bc bs μ pc lv (.long y :: .long x :: st) M Z := by
  intro p e R s m args below meth c H ls locs cells slots ad C h1 h2 hR hS hl
  exact W.lcmp C.1 C.2.1 hd (k p e R s m args below meth c H ls locs cells slots ad C h1 h2 hR hS hl)
theorem go_dup {w : go_Wd} {d bc bs : Nat} {μ : go_Mt} {pc : Nat} {lv : List (Nat × Value)} {st : List Value} {M : go_M} {Z : go_ZT} {v : Value} (hd : decode μ.2.2.1 pc = .ok (.dup, 1)) (hv : v.category = 1)
    (k : Go w d bc bs μ (pc + 1) lv (v :: v :: st) M Z) : Go w d bc bs μ pc lv (v :: st) M Z := by
  intro p e R s m args below meth c H ls locs cells slots ad C h1 h2 hR hS hl
  exact lv_dup C.1 C.2.1 hd (by rw [go_tv_cat]; exact hv) (k p e R s m args below meth c H ls locs cells slots ad C h1 h2 hR hS hl)
theorem go_pop {w : go_Wd} {d bc bs : Nat} {μ : go_Mt} {pc : Nat} {lv : List (Nat × Value)} {st : List Value} {M : go_M} {Z : go_ZT} {v : Value} (hd : decode μ.2.2.1 pc = .ok (.pop, 1)) (hv : v.category = 1)
    (k : Go w d bc bs μ (pc + 1) lv st M Z) : Go w d bc bs μ pc lv (v :: st) M Z := by
  intro p e R s m args below meth c H ls locs cells slots ad C h1 h2 hR hS hl
  exact lv_pop C.1 C.2.1 hd (by rw [go_tv_cat]; exact hv) (k p e R s m args below meth c H ls locs cells slots ad C h1 h2 hR hS hl)
theorem go_dup_x1 {w : go_Wd} {d bc bs : Nat} {μ : go_Mt} {pc : Nat} {lv : List (Nat × Value)} {st : List Value} {M : go_M} {Z : go_ZT} {v u : Value} (hd : decode μ.2.2.1 pc = .ok (.dup_x1, 1)) (hv : v.category = 1) (hu : u.category = 1)
    (k : Go w d bc bs μ (pc + 1) lv (v :: u :: v :: st) M Z) : Go w d bc bs μ pc lv (v :: u :: st) M Z := by
  intro p e R s m args below meth c H ls locs cells slots ad C h1 h2 hR hS hl
  exact lv_dup_x1 C.1 C.2.1 hd (by rw [go_tv_cat]; exact hv) (by rw [go_tv_cat]; exact hu) (k p e R s m args below meth c H ls locs cells slots ad C h1 h2 hR hS hl)
theorem go_dup2 {w : go_Wd} {d bc bs : Nat} {μ : go_Mt} {pc : Nat} {lv : List (Nat × Value)} {st : List Value} {M : go_M} {Z : go_ZT} {v u : Value} (hd : decode μ.2.2.1 pc = .ok (.dup2, 1)) (hv : v.category = 1) (hu : u.category = 1)
    (k : Go w d bc bs μ (pc + 1) lv (v :: u :: v :: u :: st) M Z) : Go w d bc bs μ pc lv (v :: u :: st) M Z := by
  intro p e R s m args below meth c H ls locs cells slots ad C h1 h2 hR hS hl
  exact lv_dup2_11 C.1 C.2.1 hd (by rw [go_tv_cat]; exact hv) (by rw [go_tv_cat]; exact hu) (k p e R s m args below meth c H ls locs cells slots ad C h1 h2 hR hS hl)
theorem go_if_eq {w : go_Wd} {d bc bs : Nat} {μ : go_Mt} {pc : Nat} {lv : List (Nat × Value)} {st : List Value} {M : go_M} {Z : go_ZT} {x : Int32} {off : Int} (tgt : Nat) (hd : decode μ.2.2.1 pc = .ok (.ifCond .eq off, 3)) (ht : (pc : Int) + off = (tgt : Int))
    (kt : (x = 0) → Go w d bc bs μ tgt lv st M Z) (kf : ¬ (x = 0) → Go w d bc bs μ (pc + 3) lv st M Z) : Go w d bc bs μ pc lv (.int x :: st) M Z := by
  intro p e R s m args below meth c H ls locs cells slots ad C h1 h2 hR hS hl
  exact lv_if_eq C.1 C.2.1 hd ht (fun q => kt q p e R s m args below meth c H ls locs cells slots ad C h1 h2 hR hS hl) (fun q => kf q p e R s m args below meth c H ls locs cells slots ad C h1 h2 hR hS hl)
theorem go_icmp_eq {w : go_Wd} {d bc bs : Nat} {μ : go_Mt} {pc : Nat} {lv : List (Nat × Value)} {st : List Value} {M : go_M} {Z : go_ZT} {x y : Int32} {off : Int} (tgt : Nat) (hd : decode μ.2.2.1 pc = .ok (.if_icmp .eq off, 3)) (ht : (pc : Int) + off = (tgt : Int))
    (kt : (x = y) → Go w d bc bs μ tgt lv st M Z) (kf : ¬ (x = y) → Go w d bc bs μ (pc + 3) lv st M Z) : Go w d bc bs μ pc lv (.int y :: .int x :: st) M Z := by
  intro p e R s m args below meth c H ls locs cells slots ad C h1 h2 hR hS hl
  exact lv_icmp_eq C.1 C.2.1 hd ht (fun q => kt q p e R s m args below meth c H ls locs cells slots ad C h1 h2 hR hS hl) (fun q => kf q p e R s m args below meth c H ls locs cells slots ad C h1 h2 hR hS hl)
theorem go_if_ne {w : go_Wd} {d bc bs : Nat} {μ : go_Mt} {pc : Nat} {lv : List (Nat × Value)} {st : List Value} {M : go_M} {Z : go_ZT} {x : Int32} {off : Int} (tgt : Nat) (hd : decode μ.2.2.1 pc = .ok (.ifCond .ne off, 3)) (ht : (pc : Int) + off = (tgt : Int))
    (kt : (¬ x = 0) → Go w d bc bs μ tgt lv st M Z) (kf : x = 0 → Go w d bc bs μ (pc + 3) lv st M Z) : Go w d bc bs μ pc lv (.int x :: st) M Z := by
  intro p e R s m args below meth c H ls locs cells slots ad C h1 h2 hR hS hl
  exact lv_if_ne C.1 C.2.1 hd ht (fun q => kt q p e R s m args below meth c H ls locs cells slots ad C h1 h2 hR hS hl) (fun q => kf q p e R s m args below meth c H ls locs cells slots ad C h1 h2 hR hS hl)
theorem go_icmp_ne {w : go_Wd} {d bc bs : Nat} {μ : go_Mt} {pc : Nat} {lv : List (Nat × Value)} {st : List Value} {M : go_M} {Z : go_ZT} {x y : Int32} {off : Int} (tgt : Nat) (hd : decode μ.2.2.1 pc = .ok (.if_icmp .ne off, 3)) (ht : (pc : Int) + off = (tgt : Int))
    (kt : (¬ x = y) → Go w d bc bs μ tgt lv st M Z) (kf : x = y → Go w d bc bs μ (pc + 3) lv st M Z) : Go w d bc bs μ pc lv (.int y :: .int x :: st) M Z := by
  intro p e R s m args below meth c H ls locs cells slots ad C h1 h2 hR hS hl
  exact lv_icmp_ne C.1 C.2.1 hd ht (fun q => kt q p e R s m args below meth c H ls locs cells slots ad C h1 h2 hR hS hl) (fun q => kf q p e R s m args below meth c H ls locs cells slots ad C h1 h2 hR hS hl)
theorem go_if_lt {w : go_Wd} {d bc bs : Nat} {μ : go_Mt} {pc : Nat} {lv : List (Nat × Value)} {st : List Value} {M : go_M} {Z : go_ZT} {x : Int32} {off : Int} (tgt : Nat) (hd : decode μ.2.2.1 pc = .ok (.ifCond .lt off, 3)) (ht : (pc : Int) + off = (tgt : Int))
    (kt : (x < 0) → Go w d bc bs μ tgt lv st M Z) (kf : ¬ (x < 0) → Go w d bc bs μ (pc + 3) lv st M Z) : Go w d bc bs μ pc lv (.int x :: st) M Z := by
  intro p e R s m args below meth c H ls locs cells slots ad C h1 h2 hR hS hl
  exact lv_if_lt C.1 C.2.1 hd ht (fun q => kt q p e R s m args below meth c H ls locs cells slots ad C h1 h2 hR hS hl) (fun q => kf q p e R s m args below meth c H ls locs cells slots ad C h1 h2 hR hS hl)
theorem go_icmp_lt {w : go_Wd} {d bc bs : Nat} {μ : go_Mt} {pc : Nat} {lv : List (Nat × Value)} {st : List Value} {M : go_M} {Z : go_ZT} {x y : Int32} {off : Int} (tgt : Nat) (hd : decode μ.2.2.1 pc = .ok (.if_icmp .lt off, 3)) (ht : (pc : Int) + off = (tgt : Int))
    (kt : (x < y) → Go w d bc bs μ tgt lv st M Z) (kf : ¬ (x < y) → Go w d bc bs μ (pc + 3) lv st M Z) : Go w d bc bs μ pc lv (.int y :: .int x :: st) M Z := by
  intro p e R s m args below meth c H ls locs cells slots ad C h1 h2 hR hS hl
  exact lv_icmp_lt C.1 C.2.1 hd ht (fun q => kt q p e R s m args below meth c H ls locs cells slots ad C h1 h2 hR hS hl) (fun q => kf q p e R s m args below meth c H ls locs cells slots ad C h1 h2 hR hS hl)
theorem go_if_ge {w : go_Wd} {d bc bs : Nat} {μ : go_Mt} {pc : Nat} {lv : List (Nat × Value)} {st : List Value} {M : go_M} {Z : go_ZT} {x : Int32} {off : Int} (tgt : Nat) (hd : decode μ.2.2.1 pc = .ok (.ifCond .ge off, 3)) (ht : (pc : Int) + off = (tgt : Int))
    (kt : (0 ≤ x) → Go w d bc bs μ tgt lv st M Z) (kf : ¬ (0 ≤ x) → Go w d bc bs μ (pc + 3) lv st M Z) : Go w d bc bs μ pc lv (.int x :: st) M Z := by
  intro p e R s m args below meth c H ls locs cells slots ad C h1 h2 hR hS hl
  exact lv_if_ge C.1 C.2.1 hd ht (fun q => kt q p e R s m args below meth c H ls locs cells slots ad C h1 h2 hR hS hl) (fun q => kf q p e R s m args below meth c H ls locs cells slots ad C h1 h2 hR hS hl)
theorem go_icmp_ge {w : go_Wd} {d bc bs : Nat} {μ : go_Mt} {pc : Nat} {lv : List (Nat × Value)} {st : List Value} {M : go_M} {Z : go_ZT} {x y : Int32} {off : Int} (tgt : Nat) (hd : decode μ.2.2.1 pc = .ok (.if_icmp .ge off, 3)) (ht : (pc : Int) + off = (tgt : Int))
    (kt : (y ≤ x) → Go w d bc bs μ tgt lv st M Z) (kf : ¬ (y ≤ x) → Go w d bc bs μ (pc + 3) lv st M Z) : Go w d bc bs μ pc lv (.int y :: .int x :: st) M Z := by
  intro p e R s m args below meth c H ls locs cells slots ad C h1 h2 hR hS hl
  exact lv_icmp_ge C.1 C.2.1 hd ht (fun q => kt q p e R s m args below meth c H ls locs cells slots ad C h1 h2 hR hS hl) (fun q => kf q p e R s m args below meth c H ls locs cells slots ad C h1 h2 hR hS hl)
theorem go_if_gt {w : go_Wd} {d bc bs : Nat} {μ : go_Mt} {pc : Nat} {lv : List (Nat × Value)} {st : List Value} {M : go_M} {Z : go_ZT} {x : Int32} {off : Int} (tgt : Nat) (hd : decode μ.2.2.1 pc = .ok (.ifCond .gt off, 3)) (ht : (pc : Int) + off = (tgt : Int))
    (kt : (0 < x) → Go w d bc bs μ tgt lv st M Z) (kf : ¬ (0 < x) → Go w d bc bs μ (pc + 3) lv st M Z) : Go w d bc bs μ pc lv (.int x :: st) M Z := by
  intro p e R s m args below meth c H ls locs cells slots ad C h1 h2 hR hS hl
  exact lv_if_gt C.1 C.2.1 hd ht (fun q => kt q p e R s m args below meth c H ls locs cells slots ad C h1 h2 hR hS hl) (fun q => kf q p e R s m args below meth c H ls locs cells slots ad C h1 h2 hR hS hl)
theorem go_icmp_gt {w : go_Wd} {d bc bs : Nat} {μ : go_Mt} {pc : Nat} {lv : List (Nat × Value)} {st : List Value} {M : go_M} {Z : go_ZT} {x y : Int32} {off : Int} (tgt : Nat) (hd : decode μ.2.2.1 pc = .ok (.if_icmp .gt off, 3)) (ht : (pc : Int) + off = (tgt : Int))
    (kt : (y < x) → Go w d bc bs μ tgt lv st M Z) (kf : ¬ (y < x) → Go w d bc bs μ (pc + 3) lv st M Z) : Go w d bc bs μ pc lv (.int y :: .int x :: st) M Z := by
  intro p e R s m args below meth c H ls locs cells slots ad C h1 h2 hR hS hl
  exact lv_icmp_gt C.1 C.2.1 hd ht (fun q => kt q p e R s m args below meth c H ls locs cells slots ad C h1 h2 hR hS hl) (fun q => kf q p e R s m args below meth c H ls locs cells slots ad C h1 h2 hR hS hl)
theorem go_if_le {w : go_Wd} {d bc bs : Nat} {μ : go_Mt} {pc : Nat} {lv : List (Nat × Value)} {st : List Value} {M : go_M} {Z : go_ZT} {x : Int32} {off : Int} (tgt : Nat) (hd : decode μ.2.2.1 pc = .ok (.ifCond .le off, 3)) (ht : (pc : Int) + off = (tgt : Int))
    (kt : (x ≤ 0) → Go w d bc bs μ tgt lv st M Z) (kf : ¬ (x ≤ 0) → Go w d bc bs μ (pc + 3) lv st M Z) : Go w d bc bs μ pc lv (.int x :: st) M Z := by
  intro p e R s m args below meth c H ls locs cells slots ad C h1 h2 hR hS hl
  exact lv_if_le C.1 C.2.1 hd ht (fun q => kt q p e R s m args below meth c H ls locs cells slots ad C h1 h2 hR hS hl) (fun q => kf q p e R s m args below meth c H ls locs cells slots ad C h1 h2 hR hS hl)
theorem go_icmp_le {w : go_Wd} {d bc bs : Nat} {μ : go_Mt} {pc : Nat} {lv : List (Nat × Value)} {st : List Value} {M : go_M} {Z : go_ZT} {x y : Int32} {off : Int} (tgt : Nat) (hd : decode μ.2.2.1 pc = .ok (.if_icmp .le off, 3)) (ht : (pc : Int) + off = (tgt : Int))
    (kt : (x ≤ y) → Go w d bc bs μ tgt lv st M Z) (kf : ¬ (x ≤ y) → Go w d bc bs μ (pc + 3) lv st M Z) : Go w d bc bs μ pc lv (.int y :: .int x :: st) M Z := by
  intro p e R s m args below meth c H ls locs cells slots ad C h1 h2 hR hS hl
  exact lv_icmp_le C.1 C.2.1 hd ht (fun q => kt q p e R s m args below meth c H ls locs cells slots ad C h1 h2 hR hS hl) (fun q => kf q p e R s m args below meth c H ls locs cells slots ad C h1 h2 hR hS hl)
theorem go_goto {w : go_Wd} {d bc bs : Nat} {μ : go_Mt} {pc : Nat} {lv : List (Nat × Value)} {st : List Value} {M : go_M} {Z : go_ZT}  {off : Int} (tgt : Nat) (hd : decode μ.2.2.1 pc = .ok (.goto off, 3)) (ht : (pc : Int) + off = (tgt : Int)) (k : Go w d bc bs μ tgt lv st M Z) : Go w d bc bs μ pc lv st M Z := by
  intro p e R s m args below meth c H ls locs cells slots ad C h1 h2 hR hS hl
  exact lv_goto C.1 C.2.1 hd ht (k p e R s m args below meth c H ls locs cells slots ad C h1 h2 hR hS hl)
theorem go_ifnullN {w : go_Wd} {d bc bs : Nat} {μ : go_Mt} {pc : Nat} {lv : List (Nat × Value)} {st : List Value} {M : go_M} {Z : go_ZT}  {off : Int} (tgt : Nat) (hd : decode μ.2.2.1 pc = .ok (.ifnull off, 3)) (ht : (pc : Int) + off = (tgt : Int)) (k : Go w d bc bs μ tgt lv st M Z) : Go w d bc bs μ pc lv (.null :: st) M Z := by
  intro p e R s m args below meth c H ls locs cells slots ad C h1 h2 hR hS hl
  exact lv_ifnullN C.1 C.2.1 hd ht (k p e R s m args below meth c H ls locs cells slots ad C h1 h2 hR hS hl)
theorem go_ifnonnull {w : go_Wd} {d bc bs : Nat} {μ : go_Mt} {pc : Nat} {lv : List (Nat × Value)} {st : List Value} {M : go_M} {Z : go_ZT} {x : Nat} {off : Int} (tgt : Nat) (hd : decode μ.2.2.1 pc = .ok (.ifnonnull off, 3)) (ht : (pc : Int) + off = (tgt : Int)) (k : Go w d bc bs μ tgt lv st M Z) : Go w d bc bs μ pc lv (.ref x :: st) M Z := by
  intro p e R s m args below meth c H ls locs cells slots ad C h1 h2 hR hS hl
  exact lv_ifnonnull C.1 C.2.1 hd ht (k p e R s m args below meth c H ls locs cells slots ad C h1 h2 hR hS hl)
theorem go_ifnull {w : go_Wd} {d bc bs : Nat} {μ : go_Mt} {pc : Nat} {lv : List (Nat × Value)} {st : List Value} {M : go_M} {Z : go_ZT} {x : Nat} {off : Int} (hd : decode μ.2.2.1 pc = .ok (.ifnull off, 3)) 
    (k : Go w d bc bs μ (pc + 3) lv st M Z) : Go w d bc bs μ pc lv (.ref x :: st) M Z := by
  intro p e R s m args below meth c H ls locs cells slots ad C h1 h2 hR hS hl
  exact lv_ifnull C.1 C.2.1 hd (k p e R s m args below meth c H ls locs cells slots ad C h1 h2 hR hS hl)
theorem go_ifnonnullN {w : go_Wd} {d bc bs : Nat} {μ : go_Mt} {pc : Nat} {lv : List (Nat × Value)} {st : List Value} {M : go_M} {Z : go_ZT} {off : Int} (hd : decode μ.2.2.1 pc = .ok (.ifnonnull off, 3)) 
    (k : Go w d bc bs μ (pc + 3) lv st M Z) : Go w d bc bs μ pc lv (.null :: st) M Z := by
  intro p e R s m args below meth c H ls locs cells slots ad C h1 h2 hR hS hl
  exact lv_ifnonnullN C.1 C.2.1 hd (k p e R s m args below meth c H ls locs cells slots ad C h1 h2 hR hS hl)
theorem go_table {w : go_Wd} {d bc bs : Nat} {μ : go_Mt} {pc : Nat} {lv : List (Nat × Value)} {st : List Value} {M : go_M} {Z : go_ZT} {dflt lo hi : Int} {offs : Array Int} {len : Nat} {x : Int32} (hd : decode μ.2.2.1 pc = .ok (.tableswitch dflt lo hi offs, len)) (tgt : Nat) (tg : Int32 → Nat) (ht : (pc : Int) + dflt = (tgt : Int)) (hi' : ∀ j : Nat, j < offs.size → ∃ off, offs[j]? = some off ∧ (pc : Int) + off = ((tg (Int32.ofInt (lo + j)) : Nat) : Int)) (hsz : (offs.size : Int) = hi - lo + 1)
    (kt : ¬ x.toInt < lo → ¬ hi < x.toInt → Go w d bc bs μ (tg x) lv st M Z) (kf : x.toInt < lo ∨ hi < x.toInt → Go w d bc bs μ tgt lv st M Z) : Go w d bc bs μ pc lv (.int x :: st) M Z := by
  intro p e R s m args below meth c H ls locs cells slots ad C h1 h2 hR hS hl
  by_cases q : x.toInt < lo ∨ hi < x.toInt
  · exact lv_tableOut C.1 C.2.1 hd q ht (kf q p e R s m args below meth c H ls locs cells slots ad C h1 h2 hR hS hl)
  · have q1 : ¬ x.toInt < lo := fun z => q (Or.inl z)
    have q2 : ¬ hi < x.toInt := fun z => q (Or.inr z)
    obtain ⟨off, g1, g2⟩ := hi' (x.toInt - lo).toNat (by omega)
    have g3 : lo + ((x.toInt - lo).toNat : Int) = x.toInt := by omega
    rw [g3, Int32.ofInt_toInt] at g2
    exact lv_tableIn C.1 C.2.1 hd q1 q2 g1 g2 (kt q1 q2 p e R s m args below meth c H ls locs cells slots ad C h1 h2 hR hS hl)
theorem go_lookup {w : go_Wd} {d bc bs : Nat} {μ : go_Mt} {pc : Nat} {lv : List (Nat × Value)} {st : List Value} {M : go_M} {Z : go_ZT} {dflt : Int} {ps : Array (Int × Int)} {len : Nat} {x : Int32} {off : Int} (tgt : Nat) (hd : decode μ.2.2.1 pc = .ok (.lookupswitch dflt ps, len)) (hp : (ps.toList.zip (ps.toList.drop 1)).all (fun (a, next) => a.1 < next.1) = true) (ho : Op.lookupswitch.offset ps.toList dflt x.toInt = off) (ht : (pc : Int) + off = (tgt : Int))
    (k : Go w d bc bs μ tgt lv st M Z) : Go w d bc bs μ pc lv (.int x :: st) M Z := by
  intro p e R s m args below meth c H ls locs cells slots ad C h1 h2 hR hS hl
  exact lv_lookup C.1 C.2.1 hd hp ho ht (k p e R s m args below meth c H ls locs cells slots ad C h1 h2 hR hS hl)
theorem go_ldc {w : go_Wd} {d bc bs : Nat} {μ : go_Mt} {pc : Nat} {lv : List (Nat × Value)} {st : List Value} {M : go_M} {Z : go_ZT} {index : Nat} {v : Int32} (hd : decode μ.2.2.1 pc = .ok (.ldc index, 2)) (hc : Cond.constant μ.1 index v ∈ go_all)
    (k : Go w d bc bs μ (pc + 2) lv (.int v :: st) M Z) : Go w d bc bs μ pc lv st M Z := by
  intro p e R s m args below meth c H ls locs cells slots ad C h1 h2 hR hS hl
  exact lv_ldc C.1 C.2.1 C.2.2.2.1 (C.2.2.2.2.1 _ hc) hd (k p e R s m args below meth c H ls locs cells slots ad C h1 h2 hR hS hl)
theorem go_ldcw {w : go_Wd} {d bc bs : Nat} {μ : go_Mt} {pc : Nat} {lv : List (Nat × Value)} {st : List Value} {M : go_M} {Z : go_ZT} {index : Nat} {v : Int32} (hd : decode μ.2.2.1 pc = .ok (.ldc_w index, 3)) (hc : Cond.constant μ.1 index v ∈ go_all)
    (k : Go w d bc bs μ (pc + 3) lv (.int v :: st) M Z) : Go w d bc bs μ pc lv st M Z := by
  intro p e R s m args below meth c H ls locs cells slots ad C h1 h2 hR hS hl
  exact lv_ldcw C.1 C.2.1 C.2.2.2.1 (C.2.2.2.2.1 _ hc) hd (k p e R s m args below meth c H ls locs cells slots ad C h1 h2 hR hS hl)
theorem go_ldc2 {w : go_Wd} {d bc bs : Nat} {μ : go_Mt} {pc : Nat} {lv : List (Nat × Value)} {st : List Value} {M : go_M} {Z : go_ZT} {index : Nat} {v : Int64} (hd : decode μ.2.2.1 pc = .ok (.ldc2_w index, 3)) (hc : Cond.constantLong μ.1 index v ∈ go_all)
    (k : Go w d bc bs μ (pc + 3) lv (.long v :: st) M Z) : Go w d bc bs μ pc lv st M Z := by
  intro p e R s m args below meth c H ls locs cells slots ad C h1 h2 hR hS hl
  exact lv_ldc2 C.1 C.2.1 C.2.2.2.1 (C.2.2.2.2.1 _ hc) hd (k p e R s m args below meth c H ls locs cells slots ad C h1 h2 hR hS hl)
theorem go_tl_pick (w : go_Wd) (ad : List Nat) (lv : List (Nat × Value)) (ks : List Nat) : lv_pick (go_tl w ad lv) ks = go_tl w ad (lv_pick lv ks) := by
  unfold lv_pick go_tl
  induction ks with
  | nil => rfl
  | cons a l ih =>
    simp only [List.filterMap_cons, List.getElem?_map]
    cases lv[a]? with
    | none => simpa using ih
    | some q => simpa using ih
theorem go_pick {w : go_Wd} {d bc bs : Nat} {μ : go_Mt} {pc : Nat} {lv : List (Nat × Value)} {st : List Value} {M : go_M} {Z : go_ZT} {lv' : List (Nat × Value)} (ks : List Nat) (hp : lv_pick lv ks = lv') (k : Go w d bc bs μ pc lv' st M Z) : Go w d bc bs μ pc lv st M Z := by
  intro p e R s m args below meth c H ls locs cells slots ad C h1 h2 hR hS hl
  subst hp
  exact k p e R s m args below meth c H ls locs cells slots ad C h1 h2 hR hS (lv_sub hl ks (go_tl_pick w ad lv ks))
