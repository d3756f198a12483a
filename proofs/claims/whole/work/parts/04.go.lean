/-! ===== the pure world: cells by number, a memory of ints, longs and references; what a method does, said over it ===== -/
abbrev go_M : Type := List (Nat × Nat) × (Nat → Nat → Int32) × (Nat → Nat → Int64) × (Nat → Nat → Option Nat)
/-- launch, tables' class numbers and slots, array classes, the heap's size at the law's start, what lies outside, the script's length and ints -/
abbrev go_Wd : Type := Launch × va_G × (Nat → ClassId) × Nat × (Nat → Nat) × Nat × (Nat → Int32)
/-- own class, name, code, locals, what it returns -/
abbrev go_Mt : Type := String × MethodName × ByteArray × Nat × Option FieldType
def go_cl : List vw_C := [(RX0, TX0, 2), (RX1, TX1, 5), (RX2, TX2, 3), (RX3, TX3, 1), (RX4, TX4, 7), (RX5, TX5, 3), (RX6, TX6, 10), (RX7, TX7, 3), (RX8, TX8, 8), (RX9, TX9, 18), (RX10, TX10, 11), (RX11, TX11, 17), (RX12, TX12, 29)]
def go_ty (ci : Nat) : Nat → FieldType := match ci with
  | 0 => tyX0
  | 1 => tyX1
  | 2 => tyX2
  | 3 => tyX3
  | 4 => tyX4
  | 5 => tyX5
  | 6 => tyX6
  | 7 => tyX7
  | 8 => tyX8
  | 9 => tyX9
  | 10 => tyX10
  | 11 => tyX11
  | _ => tyX12
def go_N (ci : Nat) : Nat := match ci with
  | 0 => 2
  | 1 => 5
  | 2 => 3
  | 3 => 1
  | 4 => 7
  | 5 => 3
  | 6 => 10
  | 7 => 3
  | 8 => 8
  | 9 => 18
  | 10 => 11
  | 11 => 17
  | _ => 29
def go_isNest : Cond → Bool
  | .methodLinkNest .. => true
  | .fieldLinkNest .. => true
  | _ => false
def go_all : List Cond := lw_tbl.filter goodWord
def go_nest : List Cond := lw_tbl.filter go_isNest
theorem go_in {x : Cond} (i : Nat) (h : lw_tbl[i]? = some x) (hg : goodWord x = true) : x ∈ go_all := List.mem_filter.mpr ⟨List.mem_of_getElem? h, hg⟩
theorem go_inN {x : Cond} (i : Nat) (h : lw_tbl[i]? = some x) (hg : go_isNest x = true) : x ∈ go_nest := List.mem_filter.mpr ⟨List.mem_of_getElem? h, hg⟩
theorem go_good {x : Cond} (h : x ∈ go_all) : goodWord x = true := (List.mem_filter.mp h).2
def go_A (w : go_Wd) : Nat → Prop := fun q => w.2.2.2.1 ≤ q
def go_tys (w : go_Wd) : List (ClassId × FieldType) := [(w.2.2.1 0, .int), (w.2.2.1 1, .long), (w.2.2.1 2, .boolean), (w.2.2.1 3, .object RX8), (w.2.2.1 4, .object RX10)]
def go_ra (w : go_Wd) (ad : List Nat) (k : Nat) : Nat := if k < 1000000 then ad.getD k 0 else w.2.2.2.2.1 (k - 1000000)
def go_tv (w : go_Wd) (ad : List Nat) : Value → Value
  | .ref k => .ref (go_ra w ad k)
  | v => v
theorem go_tv_cat (w : go_Wd) (ad : List Nat) (v : Value) : (go_tv w ad v).category = v.category := by cases v <;> rfl
def go_tl (w : go_Wd) (ad : List Nat) (lv : List (Nat × Value)) : List (Nat × Value) := lv.map (fun q => (q.1, go_tv w ad q.2))
def go_fv (w : go_Wd) (ad : List Nat) (M : go_M) (c : Nat) (ty : FieldType) (j : Nat) : Value := match ty with
  | .long => .long (M.2.2.1 c j)
  | .object _ => va_rf ((M.2.2.2 c j).map (go_ra w ad))
  | .array _ => va_rf ((M.2.2.2 c j).map (go_ra w ad))
  | _ => .int (M.2.1 c j)
def go_fs (w : go_Wd) (ad : List Nat) (M : go_M) (c ci : Nat) : List Value := (List.range (go_N ci)).map (fun j => go_fv w ad M c (go_ty ci j) j)
/-- a cell by its kind: below 100 an object of that class; 100 ints, 101 longs, 102 booleans, 103 Texts, 104 Waters -/
def go_e (w : go_Wd) (ad : List Nat) (M : go_M) (c : Nat) (k : Nat × Nat) : va_E :=
  if k.1 < 100 then .inr (k.1, go_fs w ad M c k.1)
  else if k.1 = 100 then .inl (w.2.2.1 0, k.2, .inl (M.2.1 c))
  else if k.1 = 101 then .inl (w.2.2.1 1, k.2, .inr (.inl (M.2.2.1 c)))
  else if k.1 = 102 then .inl (w.2.2.1 2, k.2, .inl (M.2.1 c))
  else if k.1 = 103 then .inl (w.2.2.1 3, k.2, .inr (.inr (.inr (.inr (fun j => (M.2.2.2 c j).map (go_ra w ad))))))
  else .inl (w.2.2.1 4, k.2, .inr (.inr (.inr (.inr (fun j => (M.2.2.2 c j).map (go_ra w ad))))))
def go_ws (w : go_Wd) (ad : List Nat) (M : go_M) : va_W := M.1.mapIdx (fun c k => (ad.getD c 0, go_e w ad M c k))
theorem go_ws_at {w : go_Wd} {ad : List Nat} {M : go_M} {c : Nat} {k : Nat × Nat} (h : M.1[c]? = some k) : (go_ws w ad M)[c]? = some (ad.getD c 0, go_e w ad M c k) := by
  unfold go_ws
  rw [List.getElem?_mapIdx, h]
  rfl
def go_R (w : go_Wd) (ad : List Nat) (M : go_M) (H : Heap) : Prop := ad.length = M.1.length ∧ M.1.length ≤ 1000000 ∧ va_P w.2.1 go_cl (go_ws w ad M) H ∧ va_D (go_A w) (go_ws w ad M)
def go_tens : Nat → Value := fun j => .int (([1, 10, 100, 1000, 10000, 100000, 1000000] : List Int32).getD j 0)
def go_facs : Nat → Value := fun j => .int (([1, 1, 2, 6, 24, 120] : List Int32).getD j 0)
def go_words77 : List Int32 := [109, 101, 108, 116, 115, 32, 98, 114, 101, 97, 107, 115, 32, 99, 108, 97, 105, 109, 115, 32, 110, 97, 109, 101, 32, 102, 97, 109, 105, 108, 121, 32, 99, 97, 108, 108, 32, 108, 97, 121, 32, 116, 97, 107, 101, 32, 115, 116, 97, 110, 100, 32, 115, 105, 110, 107, 32, 104, 111, 117, 114, 32, 119, 97, 114, 109, 32, 108, 97, 121, 101, 114, 32, 115, 105, 122, 101, 32, 119, 104, 111, 32, 115, 111, 117, 110, 100, 115, 32, 99, 101, 108, 108, 32, 110, 101, 116, 32, 104, 111, 117, 115, 101, 32, 105, 110, 32, 97, 116, 32, 111, 102, 32, 105, 102, 32, 116, 104, 101, 110, 32, 101, 108, 115, 101, 32, 101, 110, 100, 32, 111, 114, 32, 97, 110, 100, 32, 110, 111, 116, 32, 100, 105, 103, 105, 116, 32, 105, 99, 101, 32]
def go_signs93 : List Int32 := [60, 62, 61, 35, 43, 45, 42, 47, 40, 41, 59]
/-- what else holds wherever a method of the claim stands: 0 TENS, 1 FACTORIALS, 2 the script, 3 4 the texts WORDS, SIGNS, 5 6 their bytes -/
def go_I (w : go_Wd) (U : State) (H : Heap) : Prop :=
  va_K w.2.1 go_cl (go_tys w) U ∧ (∀ x ∈ go_nest, va_Nw x U) ∧ va_AO RX8 U ∧ va_AO RX10 U ∧ w.2.2.2.1 ≤ H.size ∧
  va_Z RX11 "TENS" "[I" (.ref (w.2.2.2.2.1 0)) (go_A w) U H ∧ va_T .int (w.2.2.2.2.1 0) 7 go_tens (go_A w) U H ∧
  va_Z RX11 "FACTORIALS" "[I" (.ref (w.2.2.2.2.1 1)) (go_A w) U H ∧ va_T .int (w.2.2.2.2.1 1) 6 go_facs (go_A w) U H ∧
  va_X (w.2.2.2.2.1 2) w.2.2.2.2.2.1 w.2.2.2.2.2.2 U H ∧ w.2.2.2.2.1 2 < w.2.2.2.1 ∧
  va_Z "java/lang/String" "COMPACT_STRINGS" "Z" (.int 1) (go_A w) U H ∧ (∃ v, (v = .null ∨ v = .ref (w.2.2.2.2.1 7)) ∧ va_Z "jdk/internal/util/Preconditions" "SIOOBE_FORMATTER" "Ljava/util/function/BiFunction;" v (go_A w) U H) ∧
  vk_S 2 [151, 11] [go_words77, go_signs93] (fun i => w.2.2.2.2.1 (3 + i)) (fun i => w.2.2.2.2.1 (5 + i)) (go_A w) U H ∧ vk_R RX6 77 "melts breaks claims name family call lay take stand sink hour warm layer size who sounds cell net house in at of if then else end or and not digit ice " (w.2.2.2.2.1 3) U ∧ vk_R RX6 93 "<>=#+-*/();" (w.2.2.2.2.1 4) U
theorem go_I.to {w : go_Wd} {u U : State} {H H1 : Heap} (hW : u.WarmedH U.vm) (hs : H.size ≤ H1.size) (hq : ∀ a : Nat, a < H.size → ¬ go_A w a → H1[a]? = H[a]?) (h : go_I w u H) : go_I w U H1 := by
  obtain ⟨h1, h2, h3, h4, h5, h6, h7, h8, h9, h10, h11, h12, ⟨v, hv13, h13⟩, h14, h15, h16⟩ := h
  have hv := hW.alike
  refine ⟨h1.moved hv, fun x hx => ?_, h3.moved hv, h4.moved hv, Nat.le_trans h5 hs, (h6.moved hv).kept hq, (h7.moved hv).kept hq, (h8.moved hv).kept hq, (h9.moved hv).kept hq, (h10.moved hv).kept (hq _ (Nat.lt_of_lt_of_le h11 h5) (Nat.not_le.mpr h11)), h11, (h12.moved hv).kept hq, ⟨v, hv13, (h13.moved hv).kept hq⟩, (h14.moved hv).kept hq, h15.warm hW, h16.warm hW⟩
  have h0 := h2 x hx
  have hn := (List.mem_filter.mp hx).2
  cases x <;> first | exact va_Nw.warmF hW h0 | exact va_Nw.warmM hW h0 | (simp [go_isNest] at hn)
theorem go_I.same {w : go_Wd} {u U : State} {H : Heap} (hv : u.vm = U.vm) (h : go_I w u H) : go_I w U H := by
  obtain ⟨h1, h2, h3, h4, h5, h6, h7, h8, h9, h10, h11, h12, ⟨v, hv13, h13⟩, h14, h15, h16⟩ := h
  have ha : u.vm.Alike U.vm := hv ▸ Vm.Alike.refl u.vm
  refine ⟨h1.moved ha, fun x hx => ?_, h3.moved ha, h4.moved ha, h5, h6.moved ha, h7.moved ha, h8.moved ha, h9.moved ha, h10.moved ha, h11, h12.moved ha, ⟨v, hv13, h13.moved ha⟩, h14.moved ha, h15.same hv.symm, h16.same hv.symm⟩
  have h0 := h2 x hx
  have hn := (List.mem_filter.mp hx).2
  cases x <;> first | exact va_Nw.same rfl hv h0 | (simp [go_isNest] at hn)
def go_C (w : go_Wd) (d : Nat) (μ : go_Mt) (p : Program) (R : Room) (s : State) (m : MethodId) (args : Array Value) (meth : Method) (c : Code) : Prop :=
  p.tables.exec = Jvm.exec ∧ c.code = μ.2.2.1 ∧ c.maxLocals = μ.2.2.2.1 ∧ s.vm.findClass μ.1 = some m.cls ∧ (∀ x ∈ go_all, x.before args s = true) ∧ meth.sig.returnType = μ.2.2.2.2 ∧ meth.locks = false ∧ meth.name = μ.2.1.name ∧ go_I w s s.heap ∧ d ≤ R.frames ∧ d * 50 ≤ R.locals
abbrev go_ZT : Type := List Frame → Array Value → State → Nat → Nat → List Nat → State → Prop
/-- THE JUDGEMENT: method μ stands at pc with locals lv, operands st, over the memory M: the machine comes to Z -/
def Go (w : go_Wd) (d bc bs : Nat) (μ : go_Mt) (pc : Nat) (lv : List (Nat × Value)) (st : List Value) (M : go_M) (Z : go_ZT) : Prop :=
  ∀ (p : Program) (e : Env) (R : Room) (s : State) (m : MethodId) (args : Array Value) (below : List Frame) (meth : Method) (c : Code) (H : Heap) (ls : Array Slot) (locs : List Loc) (cells slots : Nat) (ad : List Nat),
    go_C w d μ p R s m args meth c → cells + bc ≤ R.cells → slots + bs ≤ R.slots → go_R w ad M H → va_S (go_A w) s.heap H locs → lv_has ls μ.2.2.2.1 (go_tl w ad lv) →
    W p w.1 e R s m args below meth c H locs cells slots (Z below args s (cells + bc) (slots + bs) ad) (F0 m pc ls (st.map (go_tv w ad)))
def go_QC (w : go_Wd) (Q : Option Value → go_M → Prop) (ad : List Nat) : Array Value → State → Outcome → State → Prop := fun _ st oc t =>
  ∃ (r : Option Value) (M' : go_M) (ad' : List Nat), oc = .returned (r.map (go_tv w ad')) ∧ ad <+: ad' ∧ go_R w ad' M' t.heap ∧ Q r M' ∧ va_F (go_A w) st t
def go_Z (w : go_Wd) (Q : Option Value → go_M → Prop) : go_ZT := fun below args s mc ms ad => MQ below (go_QC w Q ad) args s mc ms (go_A w)
def go_words (μ : go_Mt) : List Cond := Cond.code μ.2.1 μ.2.2.1 μ.2.2.2.1 μ.2.2.2.2 :: go_all
def go_room (d bc bs : Nat) : Room := { frames := d, cells := bc, slots := bs, locals := d * 50 }
/-- a contract: called with these arguments over M the method returns r and leaves M', with Q r M' -/
def Ct (w : go_Wd) (d bc bs : Nat) (μ : go_Mt) (as : List Value) (M : go_M) (Q : Option Value → go_M → Prop) : Prop :=
  ∀ ad : List Nat, Met w.1 μ.2.1 (go_words μ) (go_room d bc bs) (va_Pc (as.map (go_tv w ad)) (fun U => go_I w U U.heap ∧ go_R w ad M U.heap)) (go_QC w Q ad) bc bs (go_A w)
theorem go_args (w : go_Wd) (ad : List Nat) : ∀ (i : Nat) (as : List Value), lv_args i (as.map (go_tv w ad)) = go_tl w ad (lv_args i as)
  | _, [] => rfl
  | i, v :: vs => by
    simp only [List.map_cons, lv_args, go_tl, go_tv_cat]
    rw [go_args w ad _ vs]
    rfl
theorem go_len (w : go_Wd) (ad : List Nat) (as : List Value) : (lg_sl (as.map (go_tv w ad))).length = (lg_sl as).length := by
  induction as with
  | nil => rfl
  | cons v vs ih =>
    simp only [List.map_cons, lg_sl, List.flatMap_cons, List.length_append, go_tv_cat] at ih ⊢
    rw [ih]
    congr 1
    split <;> rfl
theorem go_entry {w : go_Wd} {d bc bs : Nat} {μ : go_Mt} {as : List Value} {M : go_M} {Q : Option Value → go_M → Prop} (hown : μ.2.1.cls = μ.1) (hy : plainName μ.2.1.cls = true) (hn : (lg_sl as).length ≤ μ.2.2.2.1)
    (k : Go w d bc bs μ 0 (lv_args 0 as) [] M (go_Z w Q)) : Ct w d bc bs μ as M Q := by
  intro ad
  refine Met.ofW (cc := μ.2.2.1) (maxL := μ.2.2.2.1) (ret := μ.2.2.2.2) hy rfl ?_
  intro p e s m args below meth c s₁ B hml hv
  obtain ⟨rfl, hI, hR⟩ := hv
  have hts := atoms_spec (ws := go_words μ) B.pre
  have hown' : s.vm.findClass μ.1 = some m.cls := hown ▸ findClass_of_methodNamed B.named
  have hl := lv_entry (as.map (go_tv w ad)) (n := μ.2.2.2.1) (by rw [go_len]; exact hn)
  rw [lg_entry_eq]
  rw [go_args] at hl
  have hh := k p e (headSpec (go_words μ) (go_room d bc bs)).room s m (as.map (go_tv w ad)).toArray below meth c s.heap _ [] 0 0 ad
    ⟨B.exec, B.bytes, hml, hown', fun x hx => hts x (List.mem_cons_of_mem _ hx), B.returns, B.notSynchronized, (name_of_methodNamed B.named B.method).1, hI, Nat.le_refl _, Nat.le_refl _⟩
    (Nat.le_of_eq (Nat.zero_add _)) (Nat.le_of_eq (Nat.zero_add _)) hR va_S.rf hl
  rw [Nat.zero_add, Nat.zero_add] at hh
  exact hh
theorem go_at {w : go_Wd} {ad : List Nat} {ls : Array Slot} {n : Nat} {lv : List (Nat × Value)} (h : lv_has ls n (go_tl w ad lv)) (k : Nat) {i : Nat} {v : Value} (hk : lv[k]? = some (i, v)) : ls[i]? = some (.val (go_tv w ad v)) := by
  refine lv_at h k ?_
  unfold go_tl
  rw [List.getElem?_map, hk]
  rfl
theorem go_filt {w : go_Wd} {ad : List Nat} (f : Nat → Nat → Bool) (lv : List (Nat × Value)) : (go_tl w ad lv).filter (fun q => f q.1 q.2.category) = go_tl w ad (lv.filter (fun q => f q.1 q.2.category)) := by
  unfold go_tl
  rw [List.filter_map]
  refine congrArg _ (congrArg (fun g => List.filter g lv) (funext fun q => ?_))
  simp only [Function.comp, go_tv_cat]
