/-! ===== what lies outside: statics, the script, texts; Math; arraycopy; making ===== -/
theorem go_ra_x {w : go_Wd} {ad : List Nat} {k j : Nat} (h : k = 1000000 + j) : go_ra w ad k = w.2.2.2.2.1 j := by
  subst h
  unfold go_ra
  rw [if_neg (by omega), Nat.add_sub_cancel_left]
section GoExt
variable {w : go_Wd} {d bc bs : Nat} {μ : go_Mt} {pc : Nat} {lv : List (Nat × Value)} {st : List Value} {M : go_M} {Z : go_ZT}
theorem go_getT {idx : Nat} (hd : decode μ.2.2.1 pc = .ok (.getstatic idx, 3)) (hL : ∃ host, Cond.fieldLinkNest μ.1 idx RX11 "TENS" "[I" host ∈ go_nest) (k : Go w d bc bs μ (pc + 3) lv (.ref 1000000 :: st) M Z) : Go w d bc bs μ pc lv st M Z := by
  intro p e R s m args below meth cd H ls locs cells slots ad C h1 h2 hR hS hl
  obtain ⟨host, hL⟩ := hL
  have hI := C.2.2.2.2.2.2.2.2.1
  exact va_getsN C.1 C.2.1 hI.2.2.2.2.2.1 hS C.2.2.2.1 (va_Nw.use rfl (hI.2.1 _ hL)) (fun _ h => h) hd (k p e R s m args below meth cd H ls locs cells slots ad C h1 h2 hR hS hl)
theorem go_getFN {idx : Nat} (hd : decode μ.2.2.1 pc = .ok (.getstatic idx, 3)) (hL : ∃ host, Cond.fieldLinkNest μ.1 idx RX11 "FACTORIALS" "[I" host ∈ go_nest) (k : Go w d bc bs μ (pc + 3) lv (.ref 1000001 :: st) M Z) : Go w d bc bs μ pc lv st M Z := by
  intro p e R s m args below meth cd H ls locs cells slots ad C h1 h2 hR hS hl
  obtain ⟨host, hL⟩ := hL
  have hI := C.2.2.2.2.2.2.2.2.1
  exact va_getsN C.1 C.2.1 hI.2.2.2.2.2.2.2.1 hS C.2.2.2.1 (va_Nw.use rfl (hI.2.1 _ hL)) (fun _ h => h) hd (k p e R s m args below meth cd H ls locs cells slots ad C h1 h2 hR hS hl)
theorem go_getF {idx : Nat} (hd : decode μ.2.2.1 pc = .ok (.getstatic idx, 3)) (hL : Cond.fieldLink μ.1 idx RX11 "FACTORIALS" "[I" ∈ go_all) (k : Go w d bc bs μ (pc + 3) lv (.ref 1000001 :: st) M Z) : Go w d bc bs μ pc lv st M Z := by
  intro p e R s m args below meth cd H ls locs cells slots ad C h1 h2 hR hS hl
  have hI := C.2.2.2.2.2.2.2.2.1
  exact va_gets C.1 C.2.1 hI.2.2.2.2.2.2.2.1 hS C.2.2.2.1 (C.2.2.2.2.1 _ hL) (fun _ h => h) hd (k p e R s m args below meth cd H ls locs cells slots ad C h1 h2 hR hS hl)
theorem go_getC {idx : Nat} (hd : decode μ.2.2.1 pc = .ok (.getstatic idx, 3)) (hL : Cond.fieldLink μ.1 idx "java/lang/String" "COMPACT_STRINGS" "Z" ∈ go_all) (k : Go w d bc bs μ (pc + 3) lv (.int 1 :: st) M Z) : Go w d bc bs μ pc lv st M Z := by
  intro p e R s m args below meth cd H ls locs cells slots ad C h1 h2 hR hS hl
  have hI := C.2.2.2.2.2.2.2.2.1
  exact va_gets C.1 C.2.1 hI.2.2.2.2.2.2.2.2.2.2.2.1 hS C.2.2.2.1 (C.2.2.2.2.1 _ hL) (fun _ h => h) hd (k p e R s m args below meth cd H ls locs cells slots ad C h1 h2 hR hS hl)
theorem go_getS {idx : Nat} (hd : decode μ.2.2.1 pc = .ok (.getstatic idx, 3)) (hL : Cond.fieldLink μ.1 idx "jdk/internal/util/Preconditions" "SIOOBE_FORMATTER" "Ljava/util/function/BiFunction;" ∈ go_all) (k0 : Go w d bc bs μ (pc + 3) lv (.null :: st) M Z) (k : Go w d bc bs μ (pc + 3) lv (.ref 1000007 :: st) M Z) : Go w d bc bs μ pc lv st M Z := by
  intro p e R s m args below meth cd H ls locs cells slots ad C h1 h2 hR hS hl
  have hI := C.2.2.2.2.2.2.2.2.1
  obtain ⟨v, hv, hz⟩ := hI.2.2.2.2.2.2.2.2.2.2.2.2.1
  rcases hv with rfl | rfl
  · exact va_gets C.1 C.2.1 hz hS C.2.2.2.1 (C.2.2.2.2.1 _ hL) (fun _ h => h) hd (k0 p e R s m args below meth cd H ls locs cells slots ad C h1 h2 hR hS hl)
  · exact va_gets C.1 C.2.1 hz hS C.2.2.2.1 (C.2.2.2.2.1 _ hL) (fun _ h => h) hd (k p e R s m args below meth cd H ls locs cells slots ad C h1 h2 hR hS hl)
theorem go_ldT {i : Int32} {x : Int32} (hd : decode μ.2.2.1 pc = .ok (.iaload, 1)) (hin : vp_in i 7) (hx : ([1, 10, 100, 1000, 10000, 100000, 1000000] : List Int32).getD i.toNatClampNeg 0 = x) (k : Go w d bc bs μ (pc + 1) lv (.int x :: st) M Z) : Go w d bc bs μ pc lv (.int i :: .ref 1000000 :: st) M Z := by
  intro p e R s m args below meth cd H ls locs cells slots ad C h1 h2 hR hS hl
  have hI := C.2.2.2.2.2.2.2.2.1
  exact va_ti (t := w.2.2.2.2.1 0) C.1 C.2.1 hI.2.2.2.2.2.2.1 hS hin (v := .int x) (by rw [← hx]; rfl) hd (k p e R s m args below meth cd H ls locs cells slots ad C h1 h2 hR hS hl)
theorem go_ldF {i : Int32} {x : Int32} (hd : decode μ.2.2.1 pc = .ok (.iaload, 1)) (hin : vp_in i 6) (hx : ([1, 1, 2, 6, 24, 120] : List Int32).getD i.toNatClampNeg 0 = x) (k : Go w d bc bs μ (pc + 1) lv (.int x :: st) M Z) : Go w d bc bs μ pc lv (.int i :: .ref 1000001 :: st) M Z := by
  intro p e R s m args below meth cd H ls locs cells slots ad C h1 h2 hR hS hl
  have hI := C.2.2.2.2.2.2.2.2.1
  exact va_ti (t := w.2.2.2.2.1 1) C.1 C.2.1 hI.2.2.2.2.2.2.2.2.1 hS hin (v := .int x) (by rw [← hx]; rfl) hd (k p e R s m args below meth cd H ls locs cells slots ad C h1 h2 hR hS hl)
theorem go_lenT (hd : decode μ.2.2.1 pc = .ok (.arraylength, 1)) (k : Go w d bc bs μ (pc + 1) lv (.int 7 :: st) M Z) : Go w d bc bs μ pc lv (.ref 1000000 :: st) M Z := by
  intro p e R s m args below meth cd H ls locs cells slots ad C h1 h2 hR hS hl
  exact va_tlen (t := w.2.2.2.2.1 0) C.1 C.2.1 C.2.2.2.2.2.2.2.2.1.2.2.2.2.2.2.1 hS rfl hd (k p e R s m args below meth cd H ls locs cells slots ad C h1 h2 hR hS hl)
theorem go_lenF (hd : decode μ.2.2.1 pc = .ok (.arraylength, 1)) (k : Go w d bc bs μ (pc + 1) lv (.int 6 :: st) M Z) : Go w d bc bs μ pc lv (.ref 1000001 :: st) M Z := by
  intro p e R s m args below meth cd H ls locs cells slots ad C h1 h2 hR hS hl
  exact va_tlen (t := w.2.2.2.2.1 1) C.1 C.2.1 C.2.2.2.2.2.2.2.2.1.2.2.2.2.2.2.2.2.1 hS rfl hd (k p e R s m args below meth cd H ls locs cells slots ad C h1 h2 hR hS hl)
/-- the script, cell 1000002 -/
theorem go_lenX (hd : decode μ.2.2.1 pc = .ok (.arraylength, 1)) (k : Go w d bc bs μ (pc + 1) lv (.int (Int32.ofNat w.2.2.2.2.2.1) :: st) M Z) : Go w d bc bs μ pc lv (.ref 1000002 :: st) M Z := by
  intro p e R s m args below meth cd H ls locs cells slots ad C h1 h2 hR hS hl
  have hI := C.2.2.2.2.2.2.2.2.1
  have hb := hI.2.2.2.2.2.2.2.2.2.2.1
  exact va_slen (b := w.2.2.2.2.1 2) C.1 C.2.1 hI.2.2.2.2.2.2.2.2.2.1 (Nat.lt_of_lt_of_le hb hI.2.2.2.2.1) (Nat.not_le.mpr hb) hS hd (k p e R s m args below meth cd H ls locs cells slots ad C h1 h2 hR hS hl)
theorem go_ldX {i : Int32} (hd : decode μ.2.2.1 pc = .ok (.iaload, 1)) (hin : vp_in i w.2.2.2.2.2.1) (k : Go w d bc bs μ (pc + 1) lv (.int (w.2.2.2.2.2.2 i.toNatClampNeg) :: st) M Z) : Go w d bc bs μ pc lv (.int i :: .ref 1000002 :: st) M Z := by
  intro p e R s m args below meth cd H ls locs cells slots ad C h1 h2 hR hS hl
  have hI := C.2.2.2.2.2.2.2.2.1
  have hb := hI.2.2.2.2.2.2.2.2.2.2.1
  exact va_sld (b := w.2.2.2.2.1 2) C.1 C.2.1 hI.2.2.2.2.2.2.2.2.2.1 (Nat.lt_of_lt_of_le hb hI.2.2.2.2.1) (Nat.not_le.mpr hb) hS hin hd (k p e R s m args below meth cd H ls locs cells slots ad C h1 h2 hR hS hl)
/-- the texts: 1000003 WORDS, 1000004 SIGNS; their bytes 1000005, 1000006 -/
theorem go_ldcW (hd : decode μ.2.2.1 pc = .ok (.ldc 77, 2)) (ho : μ.1 = RX6) (k : Go w d bc bs μ (pc + 2) lv (.ref 1000003 :: st) M Z) : Go w d bc bs μ pc lv st M Z := by
  intro p e R s m args below meth cd H ls locs cells slots ad C h1 h2 hR hS hl
  exact va_ldcS C.1 C.2.1 (by rw [← ho]; exact C.2.2.2.1) C.2.2.2.2.2.2.2.2.1.2.2.2.2.2.2.2.2.2.2.2.2.2.2.1 hd (k p e R s m args below meth cd H ls locs cells slots ad C h1 h2 hR hS hl)
theorem go_ldcG (hd : decode μ.2.2.1 pc = .ok (.ldc 93, 2)) (ho : μ.1 = RX6) (k : Go w d bc bs μ (pc + 2) lv (.ref 1000004 :: st) M Z) : Go w d bc bs μ pc lv st M Z := by
  intro p e R s m args below meth cd H ls locs cells slots ad C h1 h2 hR hS hl
  exact va_ldcS C.1 C.2.1 (by rw [← ho]; exact C.2.2.2.1) C.2.2.2.2.2.2.2.2.1.2.2.2.2.2.2.2.2.2.2.2.2.2.2.2 hd (k p e R s m args below meth cd H ls locs cells slots ad C h1 h2 hR hS hl)
theorem go_sV {idx : Nat} (i : Nat) (hi : i < 2) (hd : decode μ.2.2.1 pc = .ok (.getfield idx, 3)) (hL : Cond.fieldLink μ.1 idx "java/lang/String" "value" "[B" ∈ go_all) (k : Go w d bc bs μ (pc + 3) lv (.ref (1000005 + i) :: st) M Z) : Go w d bc bs μ pc lv (.ref (1000003 + i) :: st) M Z := by
  intro p e R s m args below meth cd H ls locs cells slots ad C h1 h2 hR hS hl
  have hs := (C.2.2.2.2.2.2.2.2.1.2.2.2.2.2.2.2.2.2.2.2.2.2.1.1 i hi).2.2.1
  have hk := k p e R s m args below meth cd H ls locs cells slots ad C h1 h2 hR hS hl
  have e1 : go_ra w ad (1000003 + i) = w.2.2.2.2.1 (3 + i) := go_ra_x (by omega)
  have e2 : go_ra w ad (1000005 + i) = w.2.2.2.2.1 (5 + i) := go_ra_x (by omega)
  simp only [List.map_cons, go_tv, e1, e2] at hk ⊢
  exact vk_getf C.1 C.2.1 hs hS C.2.2.2.1 (C.2.2.2.2.1 _ hL) (fun _ h => h) hd hk
theorem go_sC {idx : Nat} (i : Nat) (hi : i < 2) (hd : decode μ.2.2.1 pc = .ok (.getfield idx, 3)) (hL : Cond.fieldLink μ.1 idx "java/lang/String" "coder" "B" ∈ go_all) (k : Go w d bc bs μ (pc + 3) lv (.int 0 :: st) M Z) : Go w d bc bs μ pc lv (.ref (1000003 + i) :: st) M Z := by
  intro p e R s m args below meth cd H ls locs cells slots ad C h1 h2 hR hS hl
  have hs := (C.2.2.2.2.2.2.2.2.1.2.2.2.2.2.2.2.2.2.2.2.2.2.1.1 i hi).2.1
  have hk := k p e R s m args below meth cd H ls locs cells slots ad C h1 h2 hR hS hl
  have e1 : go_ra w ad (1000003 + i) = w.2.2.2.2.1 (3 + i) := go_ra_x (by omega)
  simp only [List.map_cons, go_tv, e1] at hk ⊢
  exact vk_getf C.1 C.2.1 hs hS C.2.2.2.1 (C.2.2.2.2.1 _ hL) (fun _ h => h) hd hk
theorem go_sL (i : Nat) (hi : i < 2) (hd : decode μ.2.2.1 pc = .ok (.arraylength, 1)) {v : Int32} (hv : Int32.ofNat (([151, 11] : List Nat).getD i 0) = v) (k : Go w d bc bs μ (pc + 1) lv (.int v :: st) M Z) : Go w d bc bs μ pc lv (.ref (1000005 + i) :: st) M Z := by
  intro p e R s m args below meth cd H ls locs cells slots ad C h1 h2 hR hS hl
  have hs := (C.2.2.2.2.2.2.2.2.1.2.2.2.2.2.2.2.2.2.2.2.2.2.1.1 i hi).2.2.2
  have hk := k p e R s m args below meth cd H ls locs cells slots ad C h1 h2 hR hS hl
  have e2 : go_ra w ad (1000005 + i) = w.2.2.2.2.1 (5 + i) := go_ra_x (by omega)
  simp only [List.map_cons, go_tv, e2] at hk ⊢
  exact va_tlen C.1 C.2.1 hs hS hv hd hk
theorem go_sB (i : Nat) (hi : i < 2) {j x : Int32} (hd : decode μ.2.2.1 pc = .ok (.baload, 1)) (hin : vp_in j (([151, 11] : List Nat).getD i 0)) (hx : (([go_words77, go_signs93] : List (List Int32)).getD i []).getD j.toNatClampNeg 0 = x) (k : Go w d bc bs μ (pc + 1) lv (.int x :: st) M Z) : Go w d bc bs μ pc lv (.int j :: .ref (1000005 + i) :: st) M Z := by
  intro p e R s m args below meth cd H ls locs cells slots ad C h1 h2 hR hS hl
  have hs := (C.2.2.2.2.2.2.2.2.1.2.2.2.2.2.2.2.2.2.2.2.2.2.1.1 i hi).2.2.2
  have hk := k p e R s m args below meth cd H ls locs cells slots ad C h1 h2 hR hS hl
  have e2 : go_ra w ad (1000005 + i) = w.2.2.2.2.1 (5 + i) := go_ra_x (by omega)
  simp only [List.map_cons, go_tv, e2] at hk ⊢
  exact va_tb C.1 C.2.1 hs hS hin (v := .int x) (by rw [← hx]) hd hk
theorem go_mmax {idx : Nat} {x y : Int32} (hd : decode μ.2.2.1 pc = .ok (.invokestatic idx, 3)) (hL : Cond.methodLink μ.1 idx Lib.Math.max.name ∈ go_all ∧ Cond.static Lib.Math.max.name ∈ go_all ∧ Cond.initialized "java/lang/Math" ∈ go_all ∧ Cond.code Lib.Math.max.name Lib.Math.max.code 2 (some .int) ∈ go_all) (hdd : 1 ≤ d) (hst : (st.map fun v => v.category).sum ≤ 8) (k : Go w d bc bs μ (pc + 3) lv (.int (if x < y then y else x) :: st) M Z) : Go w d bc bs μ pc lv (.int y :: .int x :: st) M Z := by
  intro p e R s m args below meth cd H ls locs cells slots ad C h1 h2 hR hS hl
  have hts := C.2.2.2.2.1
  have hloc := C.2.2.2.2.2.2.2.2.2.2
  have hs8 : ((st.map (go_tv w ad)).map fun v => v.category).sum ≤ 8 := by rw [List.map_map, show ((fun v : Value => v.category) ∘ go_tv w ad) = (fun v : Value => v.category) from funext fun v => go_tv_cat w ad v]; exact hst
  exact va_mmax C.1 C.2.1 (C.2.2.1.trans hl.1.symm) C.2.2.2.1 (hts _ hL.1) (hts _ hL.2.1) (hts _ hL.2.2.1) (hts _ hL.2.2.2) (Nat.le_trans hdd C.2.2.2.2.2.2.2.2.2.1) (by omega) (by omega) (by omega) hd (k p e R s m args below meth cd H ls locs cells slots ad C h1 h2 hR hS hl)
theorem go_mmin {idx : Nat} {x y : Int32} (hd : decode μ.2.2.1 pc = .ok (.invokestatic idx, 3)) (hL : Cond.methodLink μ.1 idx Lib.Math.min.name ∈ go_all ∧ Cond.static Lib.Math.min.name ∈ go_all ∧ Cond.initialized "java/lang/Math" ∈ go_all ∧ Cond.code Lib.Math.min.name Lib.Math.min.code 2 (some .int) ∈ go_all) (hdd : 1 ≤ d) (hst : (st.map fun v => v.category).sum ≤ 8) (k : Go w d bc bs μ (pc + 3) lv (.int (if y < x then y else x) :: st) M Z) : Go w d bc bs μ pc lv (.int y :: .int x :: st) M Z := by
  intro p e R s m args below meth cd H ls locs cells slots ad C h1 h2 hR hS hl
  have hts := C.2.2.2.2.1
  have hloc := C.2.2.2.2.2.2.2.2.2.2
  have hs8 : ((st.map (go_tv w ad)).map fun v => v.category).sum ≤ 8 := by rw [List.map_map, show ((fun v : Value => v.category) ∘ go_tv w ad) = (fun v : Value => v.category) from funext fun v => go_tv_cat w ad v]; exact hst
  exact va_mmin C.1 C.2.1 (C.2.2.1.trans hl.1.symm) C.2.2.2.1 (hts _ hL.1) (hts _ hL.2.1) (hts _ hL.2.2.1) (hts _ hL.2.2.2) (Nat.le_trans hdd C.2.2.2.2.2.2.2.2.2.1) (by omega) (by omega) (by omega) hd (k p e R s m args below meth cd H ls locs cells slots ad C h1 h2 hR hS hl)
theorem go_mabs {idx : Nat} {x : Int32} (hd : decode μ.2.2.1 pc = .ok (.invokestatic idx, 3)) (hL : Cond.methodLink μ.1 idx Lib.Math.abs.name ∈ go_all ∧ Cond.static Lib.Math.abs.name ∈ go_all ∧ Cond.initialized "java/lang/Math" ∈ go_all ∧ Cond.code Lib.Math.abs.name Lib.Math.abs.code 1 (some .int) ∈ go_all) (hdd : 1 ≤ d) (hst : (st.map fun v => v.category).sum ≤ 8) (k : Go w d bc bs μ (pc + 3) lv (.int (if 0 ≤ x then x else 0 - x) :: st) M Z) : Go w d bc bs μ pc lv (.int x :: st) M Z := by
  intro p e R s m args below meth cd H ls locs cells slots ad C h1 h2 hR hS hl
  have hts := C.2.2.2.2.1
  have hloc := C.2.2.2.2.2.2.2.2.2.2
  have hs8 : ((st.map (go_tv w ad)).map fun v => v.category).sum ≤ 8 := by rw [List.map_map, show ((fun v : Value => v.category) ∘ go_tv w ad) = (fun v : Value => v.category) from funext fun v => go_tv_cat w ad v]; exact hst
  exact va_mabs C.1 C.2.1 (C.2.2.1.trans hl.1.symm) C.2.2.2.1 (hts _ hL.1) (hts _ hL.2.1) (hts _ hL.2.2.1) (hts _ hL.2.2.2) (Nat.le_trans hdd C.2.2.2.2.2.2.2.2.2.1) (by omega) (by omega) (by omega) hd (k p e R s m args below meth cd H ls locs cells slots ad C h1 h2 hR hS hl)
def go_cp (M : go_M) (a b sp dp n : Nat) : go_M := (M.1, va_up M.2.1 b (va_cpy (M.2.1 a) (M.2.1 b) sp dp n), M.2.2.1, M.2.2.2)
theorem go_copy {idx c0 c1 n0 n1 : Nat} {sp dp n : Int32} (hd : decode μ.2.2.1 pc = .ok (.invokestatic idx, 3)) (hL : Cond.methodLink μ.1 idx arraycopyName ∈ go_all ∧ Cond.native arraycopyName ∈ go_all ∧ Cond.static arraycopyName ∈ go_all ∧ Cond.initialized "java/lang/System" ∈ go_all) (hdd : 1 ≤ d) (hst : (st.map fun v => v.category).sum ≤ 8)
    (hk0 : M.1[c0]? = some (100, n0)) (hk1 : M.1[c1]? = some (100, n1)) (g1 : ¬ sp < 0) (g2 : ¬ dp < 0) (g3 : ¬ n < 0) (g4 : sp.toNatClampNeg + n.toNatClampNeg ≤ n0) (g5 : dp.toNatClampNeg + n.toNatClampNeg ≤ n1)
    (k : Go w d bc bs μ (pc + 3) lv st (go_cp M c0 c1 sp.toNatClampNeg dp.toNatClampNeg n.toNatClampNeg) Z) : Go w d bc bs μ pc lv (.int n :: .int dp :: .ref c1 :: .int sp :: .ref c0 :: st) M Z := by
  intro p e R s m args below meth cd H ls locs cells slots ad C h1 h2 hR hS hl
  have hts := C.2.2.2.2.1
  have hI := C.2.2.2.2.2.2.2.2.1
  have hloc := C.2.2.2.2.2.2.2.2.2.2
  have hs8 : ((st.map (go_tv w ad)).map fun v => v.category).sum ≤ 8 := by rw [List.map_map, show ((fun v : Value => v.category) ∘ go_tv w ad) = (fun v : Value => v.category) from funext fun v => go_tv_cat w ad v]; exact hst
  have hnw : nativeFrameWords "java/lang/System" "arraycopy" 5 = 7 := by decide
  show W _ _ _ _ _ _ _ _ _ _ _ _ _ _ _ (F0 m pc ls (.int n :: .int dp :: .ref (go_ra w ad c1) :: .int sp :: .ref (go_ra w ad c0) :: st.map (go_tv w ad)))
  rw [go_ra_in hR hk0, go_ra_in hR hk1]
  refine va_copyi C.1 C.2.1 (C.2.2.1.trans hl.1.symm) C.2.2.2.1 (hts _ hL.1) (hts _ hL.2.1) (hts _ hL.2.2.1) (hts _ hL.2.2.2) hI.1 hR.2.2.1 hR.2.2.2 hS c0 c1 0 0 (go_ai hk0) (go_ai hk1) (ty := .int) rfl rfl rfl g1 g2 g3 g4 g5 (fun _ _ => rfl) (Nat.le_trans hdd C.2.2.2.2.2.2.2.2.2.1) (by rw [hnw]; omega) hd (fun H1 locs1 hP hD hS1 => ?_)
  exact k p e R s m args below meth cd H1 ls locs1 cells slots ad C h1 h2 (go_R_set (M' := go_cp M c0 c1 sp.toNatClampNeg dp.toNatClampNeg n.toNatClampNeg) hR rfl hk1 (by show Sum.inl (_, _, Sum.inl _) = _; rw [show (go_cp M c0 c1 sp.toNatClampNeg dp.toNatClampNeg n.toNatClampNeg).2.1 c1 = va_cpy (M.2.1 c0) (M.2.1 c1) sp.toNatClampNeg dp.toNatClampNeg n.toNatClampNeg from if_pos rfl]) (fun c' h => ⟨if_neg h, rfl, rfl⟩) hP hD) hS1 hl
theorem go_objInit {idx c : Nat} (hd : decode μ.2.2.1 pc = .ok (.invokespecial idx, 3)) (hL : Cond.methodLink μ.1 idx Lib.objectInit ∈ go_all ∧ Cond.instanceMethod Lib.objectInit ∈ go_all ∧ Cond.code Lib.objectInit ⟨#[0xb1]⟩ 1 none ∈ go_all) (hdd : 1 ≤ d) (hst : (st.map fun v => v.category).sum ≤ 8) (k : Go w d bc bs μ (pc + 3) lv st M Z) : Go w d bc bs μ pc lv (.ref c :: st) M Z := by
  intro p e R s m args below meth cd H ls locs cells slots ad C h1 h2 hR hS hl
  have hts := C.2.2.2.2.1
  have hloc := C.2.2.2.2.2.2.2.2.2.2
  have hs8 : ((st.map (go_tv w ad)).map fun v => v.category).sum ≤ 8 := by rw [List.map_map, show ((fun v : Value => v.category) ∘ go_tv w ad) = (fun v : Value => v.category) from funext fun v => go_tv_cat w ad v]; exact hst
  have hroom : 2 * (F0 m pc ls (st.map (go_tv w ad))).monitorRoom + ((st.map (go_tv w ad)).map fun v => v.category).sum ≤ 8 := lv_room hs8
  exact W.objInit C.1 C.2.1 C.2.2.2.1 (hts _ hL.1) (hts _ hL.2.1) (hts _ hL.2.2) rfl (by rw [C.2.2.1]; exact hl.1) rfl hd (Nat.le_trans hdd C.2.2.2.2.2.2.2.2.2.1) (Nat.le_trans (Nat.add_le_add_right (show 2 * (F0 m pc ls (.ref (go_ra w ad c) :: st.map (go_tv w ad))).monitorRoom + ((st.map (go_tv w ad)).map fun v => v.category).sum ≤ 8 from hroom) 12) (by omega)) (k p e R s m args below meth cd H ls locs cells slots ad C h1 h2 hR hS hl)
end GoExt
