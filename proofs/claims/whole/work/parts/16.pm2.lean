theorem go_ne_i {x k : Int32} {n : Int} (h : ¬ x = k) (hk : k.toInt = n) : x.toInt ≠ n := fun z => h (Int32.toInt_inj.mp (z.trans hk.symm))
def jmaxl (x y : Int64) : Int64 := if y < x then x else y
def jminl (x y : Int64) : Int64 := if y < x then y else x
section PMt
variable {w : go_Wd} {d bc bs : Nat} {μ : go_Mt} {pc : Nat} {lv : List (Nat × Value)} {st : List Value} {M : go_M} {Z : go_ZT}
theorem go_mmaxL {idx : Nat} {x y : Int64} (hd : decode μ.2.2.1 pc = .ok (.invokestatic idx, 3)) (hL : Cond.methodLink μ.1 idx Lib.MathLoose.max_long.x ∈ go_all ∧ Cond.static Lib.MathLoose.max_long.x ∈ go_all ∧ Cond.initialized "java/lang/Math" ∈ go_all ∧ Cond.code Lib.MathLoose.max_long.x Lib.MathLoose.max_long.code 4 (some .long) ∈ go_all) (hdd : 1 ≤ d) (hst : (st.map fun v => v.category).sum ≤ 8) (k : Go w d bc bs μ (pc + 3) lv (.long (if y < x then x else y) :: st) M Z) : Go w d bc bs μ pc lv (.long y :: .long x :: st) M Z := by
  intro p e R s m args below meth cd H ls locs cells slots ad C h1 h2 hR hS hl
  have hts := C.2.2.2.2.1
  have hloc := C.2.2.2.2.2.2.2.2.2.2
  have hs8 : ((st.map (go_tv w ad)).map fun v => v.category).sum ≤ 8 := by rw [List.map_map, show ((fun v : Value => v.category) ∘ go_tv w ad) = (fun v : Value => v.category) from funext fun v => go_tv_cat w ad v]; exact hst
  exact va_mmax_long C.1 C.2.1 (C.2.2.1.trans hl.1.symm) C.2.2.2.1 (hts _ hL.1) (hts _ hL.2.1) (hts _ hL.2.2.1) (hts _ hL.2.2.2) (Nat.le_trans hdd C.2.2.2.2.2.2.2.2.2.1) (by omega) (by omega) (by omega) hd (k p e R s m args below meth cd H ls locs cells slots ad C h1 h2 hR hS hl)
theorem go_mminL {idx : Nat} {x y : Int64} (hd : decode μ.2.2.1 pc = .ok (.invokestatic idx, 3)) (hL : Cond.methodLink μ.1 idx Lib.MathLoose.min_long.x ∈ go_all ∧ Cond.static Lib.MathLoose.min_long.x ∈ go_all ∧ Cond.initialized "java/lang/Math" ∈ go_all ∧ Cond.code Lib.MathLoose.min_long.x Lib.MathLoose.min_long.code 4 (some .long) ∈ go_all) (hdd : 1 ≤ d) (hst : (st.map fun v => v.category).sum ≤ 8) (k : Go w d bc bs μ (pc + 3) lv (.long (if y < x then y else x) :: st) M Z) : Go w d bc bs μ pc lv (.long y :: .long x :: st) M Z := by
  intro p e R s m args below meth cd H ls locs cells slots ad C h1 h2 hR hS hl
  have hts := C.2.2.2.2.1
  have hloc := C.2.2.2.2.2.2.2.2.2.2
  have hs8 : ((st.map (go_tv w ad)).map fun v => v.category).sum ≤ 8 := by rw [List.map_map, show ((fun v : Value => v.category) ∘ go_tv w ad) = (fun v : Value => v.category) from funext fun v => go_tv_cat w ad v]; exact hst
  exact va_mmin_long C.1 C.2.1 (C.2.2.1.trans hl.1.symm) C.2.2.2.1 (hts _ hL.1) (hts _ hL.2.1) (hts _ hL.2.2.1) (hts _ hL.2.2.2) (Nat.le_trans hdd C.2.2.2.2.2.2.2.2.2.1) (by omega) (by omega) (by omega) hd (k p e R s m args below meth cd H ls locs cells slots ad C h1 h2 hR hS hl)
end PMt
theorem ml_X2_94 : Cond.methodLink RX2 94 Lib.MathLoose.max_long.x ∈ go_all ∧ Cond.static Lib.MathLoose.max_long.x ∈ go_all ∧ Cond.initialized "java/lang/Math" ∈ go_all ∧ Cond.code Lib.MathLoose.max_long.x Lib.MathLoose.max_long.code 4 (some .long) ∈ go_all := ⟨(go_in 944 (by decide +kernel) (by decide +kernel)), (go_in 945 (by decide +kernel) (by decide +kernel)), (go_in 124 (by decide +kernel) (by decide +kernel)), (go_in 946 (by decide +kernel) (by decide +kernel))⟩
theorem ml_X2_90 : Cond.methodLink RX2 90 Lib.MathLoose.min_long.x ∈ go_all ∧ Cond.static Lib.MathLoose.min_long.x ∈ go_all ∧ Cond.initialized "java/lang/Math" ∈ go_all ∧ Cond.code Lib.MathLoose.min_long.x Lib.MathLoose.min_long.code 4 (some .long) ∈ go_all := ⟨(go_in 941 (by decide +kernel) (by decide +kernel)), (go_in 942 (by decide +kernel) (by decide +kernel)), (go_in 124 (by decide +kernel) (by decide +kernel)), (go_in 943 (by decide +kernel) (by decide +kernel))⟩
