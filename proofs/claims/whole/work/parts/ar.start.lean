/-! ===== where the law starts: what the statement gives ===== -/
abbrev NWc : Cond := Jvm.Cond.and given_1 narrow_1
theorem nw_at {args : Array Value} {s : State} (h : NWc.before args s = true) {c : Cond} (i : Nat) (hi : (flatC NWc)[i]? = some c) : c.before args s = true := flat_of_before _ h c (List.mem_of_getElem? hi)
theorem nw_tens : ∀ j, j < 7 → (flatC NWc)[12 + j]? = some (Cond.eq (.elem (.static "NamesInMelt" "TENS" "[I") (.int (Int32.ofNat j))) (.int (([1, 10, 100, 1000, 10000, 100000, 1000000] : List Int32).getD j 0))) := by decide +kernel
theorem nw_facs : ∀ j, j < 6 → (flatC NWc)[22 + j]? = some (Cond.eq (.elem (.static "NamesInMelt" "FACTORIALS" "[I") (.int (Int32.ofNat j))) (.int (([1, 1, 2, 6, 24, 120] : List Int32).getD j 0))) := by decide +kernel
def law_tm (i : Nat) : Term := .string "NamesInMelt$Reader" (if i = 0 then 77 else 93)
theorem nw_w77 : ∀ j, j < 151 → (flatC NWc)[58 + j]? = some (Cond.eq (.elem (.field (law_tm 0) "java/lang/String" "value" "[B") (.int (Int32.ofNat j))) (.int (go_words77.getD j 0))) := by decide +kernel
theorem nw_s93 : ∀ j, j < 11 → (flatC NWc)[213 + j]? = some (Cond.eq (.elem (.field (law_tm 1) "java/lang/String" "value" "[B") (.int (Int32.ofNat j))) (.int (go_signs93.getD j 0))) := by decide +kernel
theorem go_all_tbl {x : Cond} (h : x ∈ go_all) : x ∈ lw_tbl := (List.mem_filter.mp h).1
theorem go_nest_tbl {x : Cond} (h : x ∈ go_nest) : x ∈ lw_tbl := (List.mem_filter.mp h).1
theorem law_K {args : Array Value} {s : State} (hts : ∀ w ∈ lw_tbl, w.before args s = true) : ∃ D : va_G, ∀ (c : Nat) (q : vw_C), go_cl[c]? = some q → u_Kn s q.1 q.2.1 q.2.2 (D.1 c) (D.2 c) := by
  have ex : ∀ c : Nat, ∃ x : ClassId × (Nat → Nat), ∀ q : vw_C, go_cl[c]? = some q → u_Kn s q.1 q.2.1 q.2.2 x.1 x.2 := by
    intro c
    match c with
    | 0 =>
      obtain ⟨a, b, h⟩ := u_known (C := RX0) (T := TX0) (N := 2) (n := 2) hts (fun w hw => go_all_tbl (uuX0 w hw)) (hts (.instantiable RX0 2) (List.mem_of_getElem? (i := 437) (by decide +kernel)))
      refine ⟨(a, b), fun q hq => ?_⟩
      have hq : some (RX0, TX0, 2) = some q := hq
      cases hq
      exact h
    | 1 =>
      obtain ⟨a, b, h⟩ := u_known (C := RX1) (T := TX1) (N := 5) (n := 5) hts (fun w hw => go_all_tbl (uuX1 w hw)) (hts (.instantiable RX1 5) (List.mem_of_getElem? (i := 478) (by decide +kernel)))
      refine ⟨(a, b), fun q hq => ?_⟩
      have hq : some (RX1, TX1, 5) = some q := hq
      cases hq
      exact h
    | 2 =>
      obtain ⟨a, b, h⟩ := u_known (C := RX2) (T := TX2) (N := 3) (n := 3) hts (fun w hw => go_all_tbl (uuX2 w hw)) (hts (.instantiable RX2 3) (List.mem_of_getElem? (i := 421) (by decide +kernel)))
      refine ⟨(a, b), fun q hq => ?_⟩
      have hq : some (RX2, TX2, 3) = some q := hq
      cases hq
      exact h
    | 3 =>
      obtain ⟨a, b, h⟩ := u_known (C := RX3) (T := TX3) (N := 1) (n := 1) hts (fun w hw => go_all_tbl (uuX3 w hw)) (hts (.instantiable RX3 1) (List.mem_of_getElem? (i := 502) (by decide +kernel)))
      refine ⟨(a, b), fun q hq => ?_⟩
      have hq : some (RX3, TX3, 1) = some q := hq
      cases hq
      exact h
    | 4 =>
      obtain ⟨a, b, h⟩ := u_known (C := RX4) (T := TX4) (N := 7) (n := 7) hts (fun w hw => go_all_tbl (uuX4 w hw)) (hts (.instantiable RX4 7) (List.mem_of_getElem? (i := 450) (by decide +kernel)))
      refine ⟨(a, b), fun q hq => ?_⟩
      have hq : some (RX4, TX4, 7) = some q := hq
      cases hq
      exact h
    | 5 =>
      obtain ⟨a, b, h⟩ := u_known (C := RX5) (T := TX5) (N := 3) (n := 3) hts (fun w hw => go_all_tbl (uuX5 w hw)) (hts (.instantiable RX5 3) (List.mem_of_getElem? (i := 512) (by decide +kernel)))
      refine ⟨(a, b), fun q hq => ?_⟩
      have hq : some (RX5, TX5, 3) = some q := hq
      cases hq
      exact h
    | 6 =>
      obtain ⟨a, b, h⟩ := u_known (C := RX6) (T := TX6) (N := 10) (n := 10) hts (fun w hw => go_all_tbl (uuX6 w hw)) (hts (.instantiable RX6 10) (List.mem_of_getElem? (i := 380) (by decide +kernel)))
      refine ⟨(a, b), fun q hq => ?_⟩
      have hq : some (RX6, TX6, 10) = some q := hq
      cases hq
      exact h
    | 7 =>
      obtain ⟨a, b, h⟩ := u_known (C := RX7) (T := TX7) (N := 3) (n := 3) hts (fun w hw => go_all_tbl (uuX7 w hw)) (hts (.instantiable RX7 3) (List.mem_of_getElem? (i := 225) (by decide +kernel)))
      refine ⟨(a, b), fun q hq => ?_⟩
      have hq : some (RX7, TX7, 3) = some q := hq
      cases hq
      exact h
    | 8 =>
      obtain ⟨a, b, h⟩ := u_known (C := RX8) (T := TX8) (N := 8) (n := 8) hts (fun w hw => go_all_tbl (uuX8 w hw)) (hts (.instantiable RX8 8) (List.mem_of_getElem? (i := 339) (by decide +kernel)))
      refine ⟨(a, b), fun q hq => ?_⟩
      have hq : some (RX8, TX8, 8) = some q := hq
      cases hq
      exact h
    | 9 =>
      obtain ⟨a, b, h⟩ := u_known (C := RX9) (T := TX9) (N := 18) (n := 18) hts (fun w hw => go_all_tbl (uuX9 w hw)) (hts (.instantiable RX9 18) (List.mem_of_getElem? (i := 145) (by decide +kernel)))
      refine ⟨(a, b), fun q hq => ?_⟩
      have hq : some (RX9, TX9, 18) = some q := hq
      cases hq
      exact h
    | 10 =>
      obtain ⟨a, b, h⟩ := u_known (C := RX10) (T := TX10) (N := 11) (n := 11) hts (fun w hw => go_all_tbl (uuX10 w hw)) (hts (.instantiable RX10 11) (List.mem_of_getElem? (i := 151) (by decide +kernel)))
      refine ⟨(a, b), fun q hq => ?_⟩
      have hq : some (RX10, TX10, 11) = some q := hq
      cases hq
      exact h
    | 11 =>
      obtain ⟨a, b, h⟩ := u_known (C := RX11) (T := TX11) (N := 17) (n := 17) hts (fun w hw => go_all_tbl (uuX11 w hw)) (hts (.instantiable RX11 17) (List.mem_of_getElem? (i := 137) (by decide +kernel)))
      refine ⟨(a, b), fun q hq => ?_⟩
      have hq : some (RX11, TX11, 17) = some q := hq
      cases hq
      exact h
    | 12 =>
      obtain ⟨a, b, h⟩ := u_known (C := RX12) (T := TX12) (N := 29) (n := 29) hts (fun w hw => go_all_tbl (uuX12 w hw)) (hts (.instantiable RX12 29) (List.mem_of_getElem? (i := 1327) (by decide +kernel)))
      refine ⟨(a, b), fun q hq => ?_⟩
      have hq : some (RX12, TX12, 29) = some q := hq
      cases hq
      exact h
    | k + 13 =>
      obtain ⟨a, b, h⟩ := u_known (C := RX0) (T := TX0) (N := 2) (n := 2) hts (fun w hw => go_all_tbl (uuX0 w hw)) (hts (.instantiable RX0 2) (List.mem_of_getElem? (i := 437) (by decide +kernel)))
      refine ⟨(a, b), fun q hq => ?_⟩
      have hq : (none : Option vw_C) = some q := hq
      cases hq
  obtain ⟨f, hf⟩ := Classical.axiomOfChoice ex
  exact ⟨(fun c => (f c).1, fun c => (f c).2), fun c q h => hf c q h⟩
theorem law_A1 {args : Array Value} {s : State} {ty : FieldType} (h : (Cond.arrayClass ty).before args s = true) (hne : ∀ x, ty ≠ .object x) : ∃ cA : ClassId, ArrOfT s cA ty ∧ va_RA s cA ty := by
  obtain ⟨cA, kA, comp, h1, h2, h3⟩ := Cond.arrayClass_spec (args := args) (first := s) (o := none) (s := s) (idx := []) h
  refine ⟨cA, fun n z => ⟨fun k h => (by cases h), kA, h2, comp, h3⟩, ?_⟩
  cases ty with
  | object x => exact absurd rfl (hne x)
  | _ => exact h1
theorem law_A2 {args : Array Value} {s : State} {C : String} (h : (Cond.arrayOver (.object C)).before args s = true) : ∃ cA : ClassId, ArrOfT s cA (.object C) ∧ va_RA s cA (.object C) := by
  obtain ⟨comp, cA, kA, h1, -, h2, h3, h4⟩ := Cond.arrayOver_spec (args := args) (first := s) (o := none) (s := s) (idx := []) h
  exact ⟨cA, fun n z => ⟨fun k h => (by cases h), kA, h2, comp, h3⟩, kA, comp, h2, h3, h1, h4⟩
theorem law_I {args : Array Value} {s : State} (l : Launch) {b L : Nat} {xs : Nat → Int32} (hts : ∀ w ∈ lw_tbl, w.before args s = true) (hX : va_X b L xs s s.heap) (hb : b < s.heap.size) (hgv : NWc.before args s = true) : ∃ w : go_Wd, w.1 = l ∧ w.2.2.2.1 = s.heap.size ∧ w.2.2.2.2.1 2 = b ∧ w.2.2.2.2.2.1 = L ∧ go_I w s s.heap := by
  have tb : ∀ {c : Cond} (i : Nat), lw_tbl[i]? = some c → c.before args s = true := fun i h => hts _ (List.mem_of_getElem? h)
  have hA : ∀ a : Nat, a < s.heap.size → ¬ (fun q : Nat => s.heap.size ≤ q) a := fun a h => Nat.not_le.mpr h
  obtain ⟨D, hD⟩ := law_K hts
  obtain ⟨c0, a0, b0⟩ := law_A1 (hts _ (go_all_tbl ar_int)) (fun x h => by cases h)
  obtain ⟨c1, a1, b1⟩ := law_A1 (hts _ (go_all_tbl ar_long)) (fun x h => by cases h)
  obtain ⟨c2, a2, b2⟩ := law_A1 (hts _ (go_all_tbl ar_boolean)) (fun x h => by cases h)
  have o8 : (Cond.arrayOver (.object RX8)).before args s = true := tb 338 (by decide +kernel)
  have o10 : (Cond.arrayOver (.object RX10)).before args s = true := tb 231 (by decide +kernel)
  obtain ⟨c3, a3, b3⟩ := law_A2 o8
  obtain ⟨c4, a4, b4⟩ := law_A2 o10
  have iN : (Cond.initialized "NamesInMelt").before args s = true := tb 114 (by decide +kernel)
  obtain ⟨t0, e0, T0⟩ := va_Tof (tm := .static "NamesInMelt" "TENS" "[I") (ty := .int) (N := 7) (f := go_tens) (A := fun q : Nat => s.heap.size ≤ q) (by decide) (nw_at hgv 10 (by decide +kernel)) (va_eqt (nw_at hgv 11 (by decide +kernel))) (fun j hj => va_eqt (nw_at hgv (12 + j) (nw_tens j hj))) hA
  have Z0 := va_Zof (C := "NamesInMelt") (n := "TENS") (d := "[I") (A := fun q : Nat => s.heap.size ≤ q) (tb 944 (by decide +kernel)) iN e0 hA
  obtain ⟨t1, e1, T1⟩ := va_Tof (tm := .static "NamesInMelt" "FACTORIALS" "[I") (ty := .int) (N := 6) (f := go_facs) (A := fun q : Nat => s.heap.size ≤ q) (by decide) (nw_at hgv 20 (by decide +kernel)) (va_eqt (nw_at hgv 21 (by decide +kernel))) (fun j hj => va_eqt (nw_at hgv (22 + j) (nw_facs j hj))) hA
  have Z1 := va_Zof (C := "NamesInMelt") (n := "FACTORIALS") (d := "[I") (A := fun q : Nat => s.heap.size ≤ q) (tb 1246 (by decide +kernel)) iN e1 hA
  have ZC := va_Zof (C := "java/lang/String") (n := "COMPACT_STRINGS") (d := "Z") (A := fun q : Nat => s.heap.size ≤ q) (tb 647 (by decide +kernel)) (tb 129 (by decide +kernel)) (va_eqt (z := 1) (nw_at hgv 4 (by decide +kernel))) hA
  have ZQ := va_Zqof (C := "jdk/internal/util/Preconditions") (n := "SIOOBE_FORMATTER") (d := "Ljava/util/function/BiFunction;") (A := fun q : Nat => s.heap.size ≤ q) (tb 663 (by decide +kernel)) (tb 131 (by decide +kernel)) (nw_at hgv 5 (by decide +kernel)) hA
  obtain ⟨t7, v7, hv7, Z7⟩ : ∃ (t : Nat) (v : Value), (v = .null ∨ v = .ref t) ∧ va_Z "jdk/internal/util/Preconditions" "SIOOBE_FORMATTER" "Ljava/util/function/BiFunction;" v (fun q : Nat => s.heap.size ≤ q) s s.heap := by
    rcases ZQ with h | ⟨t, h⟩
    · exact ⟨0, .null, Or.inl rfl, h⟩
    · exact ⟨t, .ref t, Or.inr rfl, h⟩
  have two : ∀ i : Nat, i < 2 → i = 0 ∨ i = 1 := fun i hi => by omega
  obtain ⟨adK, adV, hS, hSe⟩ := vk_Sof (N := 2) (tm := law_tm) (len := [151, 11]) (byt := [go_words77, go_signs93]) (A := fun q : Nat => s.heap.size ≤ q) (args := args) (s := s)
    (fun i hi => by rcases two i hi with rfl | rfl <;> decide)
    (fun i hi => by
      rcases two i hi with rfl | rfl
      · exact nw_at hgv 54 (by decide +kernel)
      · exact nw_at hgv 209 (by decide +kernel))
    (fun i hi => by
      rcases two i hi with rfl | rfl
      · exact nw_at hgv 55 (by decide +kernel)
      · exact nw_at hgv 210 (by decide +kernel))
    (fun i hi => by
      rcases two i hi with rfl | rfl
      · exact nw_at hgv 56 (by decide +kernel)
      · exact nw_at hgv 211 (by decide +kernel))
    (fun i hi => by
      rcases two i hi with rfl | rfl
      · exact nw_at hgv 57 (by decide +kernel)
      · exact nw_at hgv 212 (by decide +kernel))
    (fun i hi j hj => by
      rcases two i hi with rfl | rfl
      · exact nw_at hgv (58 + j) (nw_w77 j hj)
      · exact nw_at hgv (213 + j) (nw_s93 j hj))
    (fun i j hi hj hij => by
      rcases two i hi with rfl | rfl
      · rcases two j hj with rfl | rfl
        · exact absurd rfl hij
        · exact Or.inl (nw_at hgv 224 (by decide +kernel))
      · rcases two j hj with rfl | rfl
        · exact Or.inr (nw_at hgv 224 (by decide +kernel))
        · exact absurd rfl hij)
    hA
  have r77 : (Cond.stringRef RX6 77 "melts breaks claims name family call lay take stand sink hour warm layer size who sounds cell net house in at of if then else end or and not digit ice ").before args s = true := tb 637 (by decide +kernel)
  have r93 : (Cond.stringRef RX6 93 "<>=#+-*/();").before args s = true := tb 700 (by decide +kernel)
  refine ⟨(l, D, fun k => if k = 0 then c0 else if k = 1 then c1 else if k = 2 then c2 else if k = 3 then c3 else c4, s.heap.size, fun k => if k = 0 then t0 else if k = 1 then t1 else if k = 2 then b else if k = 3 then adK 0 else if k = 4 then adK 1 else if k = 5 then adV 0 else if k = 6 then adV 1 else t7, L, xs), rfl, rfl, rfl, rfl, ⟨hD, fun k q hk => ?_⟩, fun x hx => ?_, va_AO.of o8, va_AO.of o10, Nat.le_refl _, Z0, T0, Z1, T1, hX, hb, ZC, ⟨v7, hv7, Z7⟩, ⟨fun i hi => ?_, fun i j hi hj e => ?_⟩, vk_R.of r77 (hSe 0 (by omega)), vk_R.of r93 (hSe 1 (by omega))⟩
  · match k, hk with
    | 0, hk =>
      have hk : some (c0, FieldType.int) = some q := hk
      cases hk
      exact ⟨a0, b0⟩
    | 1, hk =>
      have hk : some (c1, FieldType.long) = some q := hk
      cases hk
      exact ⟨a1, b1⟩
    | 2, hk =>
      have hk : some (c2, FieldType.boolean) = some q := hk
      cases hk
      exact ⟨a2, b2⟩
    | 3, hk =>
      have hk : some (c3, FieldType.object RX8) = some q := hk
      cases hk
      exact ⟨a3, b3⟩
    | 4, hk =>
      have hk : some (c4, FieldType.object RX10) = some q := hk
      cases hk
      exact ⟨a4, b4⟩
    | k + 5, hk =>
      have hk : (none : Option (ClassId × FieldType)) = some q := hk
      cases hk
  · have h0 := hts x (go_nest_tbl hx)
    have hn := (List.mem_filter.mp hx).2
    cases x <;> first | exact va_Nw.of rfl h0 | (simp [go_isNest] at hn)
  · rcases two i hi with rfl | rfl
    · exact hS.1 0 (by omega)
    · exact hS.1 1 (by omega)
  · rcases two i hi with rfl | rfl
    · rcases two j hj with rfl | rfl
      · rfl
      · exact hS.2 0 1 (by omega) (by omega) e
    · rcases two j hj with rfl | rfl
      · exact hS.2 1 0 (by omega) (by omega) e
      · rfl
theorem fe_lw {s t : State} {o : Outcome} {Lc : List Loc} {mc ms : Nat} (h : FrameEnd s o t Lc mc ms) (hL : ∀ q ∈ Lc, s.heap.size ≤ q.base) (h1 : mc ≤ 600000) (h2 : ms ≤ 7302250) : Framed s o t [] 600000 7302250 := by
  obtain ⟨a, b, c1, c2, c3, c4, c5, c6⟩ := h
  refine ⟨a, b, c1, c2, Nat.le_trans c3 (Nat.add_le_add_left h1 _), c4, Nat.le_trans c5 h2, fun x cc hc => ?_⟩
  obtain ⟨c', d1, d2, d3, d4⟩ := c6 x cc hc
  refine ⟨c', d1, d2, d3, fun i _ => d4 i (fun hm => ?_)⟩
  have g1 : s.heap.size ≤ x := hL _ hm
  have g2 := (Array.getElem?_eq_some_iff.mp hc).1
  omega
