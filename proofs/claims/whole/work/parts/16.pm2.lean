theorem go_ne_i {x k : Int32} {n : Int} (h : ¬ x = k) (hk : k.toInt = n) : x.toInt ≠ n := fun z => h (Int32.toInt_inj.mp (z.trans hk.symm))
def jmaxl (x y : Int64) : Int64 := if y < x then x else y
def jminl (x y : Int64) : Int64 := if y < x then y else x
section PMt
variable {w : go_Wd} {d bc bs : Nat} {μ : go_Mt} {pc : Nat} {lv : List (Nat × Value)} {st : List Value} {M : go_M} {Z : go_ZT}
theorem go_mmaxL {idx : Nat} {x y : Int64} (hd : decode μ.2.2.1 pc = .ok (.invokestatic idx, 3)) (hL : Cond.methodLink μ.1 idx Lib.MathLoose.max_long.x ∈ go_all ∧ Cond.static Lib.MathLoose.max_long.x ∈ go_all ∧ Cond.initialized "java/lang/Math" ∈ go_all ∧ Cond.code Lib.MathLoose.max_long.x Lib.MathLoose.max_long.code 4 (some .long) ∈ go_all) (hdd : 1 ≤ d) (hst : (st.map fun v => v.category).sum ≤ 8) (k : Go w d bc bs μ (pc + 3) lv (.long (if y < x then x else y) :: st) M Z) : Go w d bc bs μ pc lv (.long y :: .long x :: st) M Z := by
  intro p e R s m args below meth cd H ls locs cells slots ad C h1 h2 hR hS hl
  have hts := C.2.2.2.2.1
  have hloc := C.2.2.2.2.2.2.2.2.2.2
  have hs8 : ((st.map (go_tv w ad)).map fun v => v.category).sum ≤ 8 := by rw [List.map_map, show ((fun v : Value => v.category) ∘ go_tv w ad) = (fun v : Value => v.category) from funext fun v => go_tv_cat w ad v]; exact hst
  exact va_mmax_long C.1 C.2.1 (C.2.2.1.trans hl.1.symm) C.2.2.2.1 (hts _ hL.1) (hts _ hL.2.1) (hts _ hL.2.2.1) (hts _ hL.2.2.2) (Nat.le_trans hdd C.2.2.2.2.2.2.2.2.2.1) (by omega) (by omega) (by omega) hd (k p e R s m args below meth cd H ls locs cells slots ad C h1 h2 hR hS hl)
theorem go_mminL {idx : Nat} {x y : Int64} (hd : decode μ.2.2.1 pc = .ok (.invokestatic idx, 3)) (hL : Cond.methodLink μ.1 idx Lib.MathLoose.min_long.x ∈ go_all ∧ Cond.static Lib.MathLoose.min_long.x ∈ go_all ∧ Cond.initialized "java/lang/Math" ∈ go_all ∧ Cond.code Lib.MathLoose.min_long.x Lib.MathLoose.min_long.code 4 (some .long) ∈ go_all) (hdd : 1 ≤ d) (hst : (st.map fun v => v.category).sum ≤ 8) (k : Go w d bc bs μ (pc + 3) lv (.long (if y < x then y else x) :: st) M Z) : Go w d bc bs μ pc lv (.long y :: .long x :: st) M Z := by
  intro p e R s m args below meth cd H ls locs cells slots ad C h1 h2 hR hS hl
  have hts := C.2.2.2.2.1
  have hloc := C.2.2.2.2.2.2.2.2.2.2
  have hs8 : ((st.map (go_tv w ad)).map fun v => v.category).sum ≤ 8 := by rw [List.map_map, show ((fun v : Value => v.category) ∘ go_tv w ad) = (fun v : Value => v.category) from funext fun v => go_tv_cat w ad v]; exact hst
  exact va_mmin_long C.1 C.2.1 (C.2.2.1.trans hl.1.symm) C.2.2.2.1 (hts _ hL.1) (hts _ hL.2.1) (hts _ hL.2.2.1) (hts _ hL.2.2.2) (Nat.le_trans hdd C.2.2.2.2.2.2.2.2.2.1) (by omega) (by omega) (by omega) hd (k p e R s m args below meth cd H ls locs cells slots ad C h1 h2 hR hS hl)
end PMt
theorem ml_X2_94 : Cond.methodLink RX2 94 Lib.MathLoose.max_long.x ∈ go_all ∧ Cond.static Lib.MathLoose.max_long.x ∈ go_all ∧ Cond.initialized "java/lang/Math" ∈ go_all ∧ Cond.code Lib.MathLoose.max_long.x Lib.MathLoose.max_long.code 4 (some .long) ∈ go_all := ⟨(go_in 956 (by decide +kernel) (by decide +kernel)), (go_in 957 (by decide +kernel) (by decide +kernel)), (go_in 128 (by decide +kernel) (by decide +kernel)), (go_in 958 (by decide +kernel) (by decide +kernel))⟩
theorem ml_X2_90 : Cond.methodLink RX2 90 Lib.MathLoose.min_long.x ∈ go_all ∧ Cond.static Lib.MathLoose.min_long.x ∈ go_all ∧ Cond.initialized "java/lang/Math" ∈ go_all ∧ Cond.code Lib.MathLoose.min_long.x Lib.MathLoose.min_long.code 4 (some .long) ∈ go_all := ⟨(go_in 953 (by decide +kernel) (by decide +kernel)), (go_in 954 (by decide +kernel) (by decide +kernel)), (go_in 128 (by decide +kernel) (by decide +kernel)), (go_in 955 (by decide +kernel) (by decide +kernel))⟩
theorem go_topo {w : go_Wd} {d bc bs : Nat} {m : go_Mt} {pc : Nat} {lv : List (Nat × Value)} {st : List Value} {M : go_M} {Z : go_ZT} {x e : Option Nat} (hx : x = e) (k : Go w d bc bs m pc lv (go_on x :: st) M Z) : Go w d bc bs m pc lv (go_on e :: st) M Z := hx ▸ k
def go_b (o : Option (Int32 × PM)) : Prop := ∀ q, o = some q → q.1 = 0 ∨ q.1 = 1
theorem gb_0 {μ : PM} : go_b (some (0, μ)) := fun q h => by cases h; exact Or.inl rfl
theorem gb_1 {μ : PM} : go_b (some (1, μ)) := fun q h => by cases h; exact Or.inr rfl
theorem gb_ite {c : Prop} [Decidable c] {A B : Option (Int32 × PM)} (ha : go_b A) (hb : go_b B) : go_b (if c then A else B) := by
  intro q h
  by_cases hc : c
  · exact ha q (go_ifp hc h)
  · exact hb q (go_ifn hc h)
theorem gb_chk {i : Int32} {n : Nat} {A : Option (Int32 × PM)} (ha : go_b A) : go_b (go_chk i n A) := fun q h => ha q (go_chk_e h).2
theorem gb_let {α : Type} {e : α} {f : α → Option (Int32 × PM)} (hf : ∀ x, go_b (f x)) : go_b (go_let e f) := fun q h => hf e q h
theorem gb_bind {α : Type} {o : Option α} {f : α → Option (Int32 × PM)} (hf : ∀ x, go_b (f x)) : go_b (o.bind f) := by
  intro q h
  obtain ⟨x, -, h⟩ := go_bind h
  exact hf x q h
theorem lp_all {σ ρ : Type} {f : σ → Option (σ ⊕ ρ)} {P : ρ → Prop} (hb : ∀ s r, f s = some (.inr r) → P r) : ∀ n s r, lp f n s = some r → P r := by
  intro n
  induction n with
  | zero => intro s r h; cases h
  | succ n ih =>
    intro s r h
    cases hf : f s with
    | none => rw [lp, hf] at h; cases h
    | some o =>
      cases o with
      | inl s' => rw [lp, hf] at h; exact ih s' r h
      | inr r' => rw [lp, hf] at h; cases h; exact hb s _ hf
abbrev rdMt : Nat → go_Mt
  | 0 => mtX6_readSum
  | 1 => mtX6_readProduct
  | 2 => mtX6_readOne
  | 3 => mtX6_readChoice
  | 4 => mtX6_readEither
  | 5 => mtX6_readBoth
  | _ => mtX6_readAsk
theorem go_entry2 {w : go_Wd} {d bc bs : Nat} {μ : go_Mt} {as : List Value} {lv : List (Nat × Value)} {M : go_M} {Q : Option Value → go_M → Prop} (hown : μ.2.1.cls = μ.1) (hy : plainName μ.2.1.cls = true) (hn : (lg_sl as).length ≤ μ.2.2.2.1) (hlv : lv_args 0 as = lv)
    (k : Go w d bc bs μ 0 lv [] M (go_Z w Q)) : Ct w d bc bs μ as M Q := by
  subst hlv
  exact go_entry hown hy hn k
theorem fx_X11_366 : Cond.fieldLink RX11 366 RX11 "FACTORIALS" "[I" ∈ go_all := go_in 1245 (by decide +kernel) (by decide +kernel)
def go_bi (x : Int32) : Prop := x = 0 ∨ x = 1
theorem bi_0 : go_bi 0 := Or.inl rfl
theorem bi_1 : go_bi 1 := Or.inr rfl
theorem bi_ite {c : Prop} [Decidable c] {A B : Int32} (ha : go_bi A) (hb : go_bi B) : go_bi (if c then A else B) := by
  by_cases hc : c
  · rw [if_pos hc]; exact ha
  · rw [if_neg hc]; exact hb
