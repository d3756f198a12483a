/-! ===== the memory while it is made: rules ===== -/
abbrev BB : Type := List (Nat × Nat) × List (List Int32) × List (List (Option Nat))
def bm (B : BB) : go_M := go_lm B.1 B.2.1 B.2.2
def b_nw (B : BB) (k : Nat × Nat) : BB := (B.1 ++ [k], B.2.1 ++ [[]], B.2.2 ++ [[]])
def b_wr (B : BB) (c j : Nat) (v : Option Nat) : BB := (B.1, B.2.1, B.2.2.set c (go_rs none (B.2.2.getD c []) j v))
def b_wi (B : BB) (c j : Nat) (v : Int32) : BB := (B.1, B.2.1.set c (go_rs 0 (B.2.1.getD c []) j v), B.2.2)
def b_arr (B : BB) (c j n : Nat) : BB := b_wr (b_nw B (100, n)) c j (some B.1.length)
def BW (B : BB) : Prop := B.2.1.length = B.1.length ∧ B.2.2.length = B.1.length ∧ go_wm (bm B)
theorem ap1 {α : Type} {l m : List α} {c : Nat} {k : α} (h : l[c]? = some k) : (l ++ m)[c]? = some k := by
  have := (List.getElem?_eq_some_iff.mp h).1
  rw [List.getElem?_append_left this]
  exact h
theorem ap2 {α : Type} {l : List α} {k : α} : (l ++ [k])[l.length]? = some k := by
  rw [List.getElem?_append_right (Nat.le_refl _), Nat.sub_self]
  rfl
theorem lt_sh {α : Type} {l : List α} {c : Nat} {k : α} (h : l[c]? = some k) : c < l.length := (List.getElem?_eq_some_iff.mp h).1
theorem bm_nw {B : BB} {k : Nat × Nat} (h : BW B) : go_nw (bm B) k = bm (b_nw B k) := go_lm_nw _ _ _ _ h.1 h.2.1
theorem bm_wr {B : BB} {c j : Nat} {v : Option Nat} (h : BW B) (hc : c < B.1.length) : go_wr (bm B) c j v = bm (b_wr B c j v) := go_lm_wr _ _ _ _ _ _ (by rw [h.2.1]; exact hc)
theorem bm_wi {B : BB} {c j : Nat} {v : Int32} (h : BW B) (hc : c < B.1.length) : go_wi (bm B) c j v = bm (b_wi B c j v) := go_lm_wi _ _ _ _ _ _ (by rw [h.1]; exact hc)
theorem BW_nw {B : BB} {k : Nat × Nat} (h : BW B) : BW (b_nw B k) := by
  refine ⟨by show (B.2.1 ++ [[]]).length = (B.1 ++ [k]).length; rw [List.length_append, List.length_append, h.1]; rfl, by show (B.2.2 ++ [[]]).length = (B.1 ++ [k]).length; rw [List.length_append, List.length_append, h.2.1]; rfl, ?_⟩
  rw [← bm_nw h]
  intro c j q hq
  have hq : va_up (bm B).2.2.2 (bm B).1.length (fun _ => none) c j = some q := hq
  have e : (go_nw (bm B) k).1.length = B.1.length + 1 := by
    show (B.1 ++ [k]).length = _
    rw [List.length_append]
    rfl
  unfold va_up at hq
  split at hq
  · cases hq
  · have := h.2.2 c j q hq
    have e0 : (bm B).1.length = B.1.length := rfl
    omega
theorem BW_wr {B : BB} {c j q : Nat} (h : BW B) (hc : c < B.1.length) (hq : q < B.1.length) : BW (b_wr B c j (some q)) := by
  refine ⟨h.1, by show (B.2.2.set _ _).length = _; rw [List.length_set]; exact h.2.1, ?_⟩
  rw [← bm_wr h hc]
  intro c' j' q' hq'
  have hq' : va_up (bm B).2.2.2 c (va_up ((bm B).2.2.2 c) j (some q)) c' j' = some q' := hq'
  unfold va_up at hq'
  split at hq'
  · dsimp only at hq'
    split at hq'
    · cases hq'
      exact Or.inl hq
    · exact h.2.2 c j' q' hq'
  · exact h.2.2 c' j' q' hq'
theorem BW_wi {B : BB} {c j : Nat} {v : Int32} (h : BW B) : BW (b_wi B c j v) := ⟨by show (B.2.1.set _ _).length = _; rw [List.length_set]; exact h.1, h.2.1, h.2.2⟩
theorem arr_l (B : BB) (c j n : Nat) : (b_arr B c j n).1.length = B.1.length + 1 := by
  show (B.1 ++ [(100, n)]).length = _
  rw [List.length_append]
  rfl
theorem nw_l (B : BB) (k : Nat × Nat) : (b_nw B k).1.length = B.1.length + 1 := by
  show (B.1 ++ [k]).length = _
  rw [List.length_append]
  rfl
theorem arr_W {B : BB} {c j n : Nat} (h : BW B) (hc : c < B.1.length) : BW (b_arr B c j n) := BW_wr (BW_nw h) (by rw [nw_l]; omega) (by rw [nw_l]; omega)
theorem arr_k {B : BB} {c j n c' : Nat} {k : Nat × Nat} (h : B.1[c']? = some k) : (b_arr B c j n).1[c']? = some k := ap1 h
theorem nw_k {B : BB} {c' : Nat} {k k' : Nat × Nat} (h : B.1[c']? = some k) : (b_nw B k').1[c']? = some k := ap1 h
theorem nw_n {B : BB} {k : Nat × Nat} : (b_nw B k).1[B.1.length]? = some k := ap2
def lvk (n : Nat) (lv : List (Nat × Value)) : Prop := ∀ q ∈ lv, go_wv n q.2
def stk (n : Nat) (st : List Value) : Prop := ∀ v ∈ st, go_wv n v
theorem lvk_nil (n : Nat) : lvk n [] := fun q hq => by cases hq
theorem stk_nil (n : Nat) : stk n [] := fun q hq => by cases hq
theorem lvk_r {n i c : Nat} {lv : List (Nat × Value)} (h : c < n) (h2 : lvk n lv) : lvk n ((i, .ref c) :: lv) := fun q hq => (List.mem_cons.mp hq).elim (fun e => by rw [e]; exact Or.inl h) (h2 q)
theorem lvk_x {n i c : Nat} {lv : List (Nat × Value)} (h : 1000000 ≤ c) (h2 : lvk n lv) : lvk n ((i, .ref c) :: lv) := fun q hq => (List.mem_cons.mp hq).elim (fun e => by rw [e]; exact Or.inr h) (h2 q)
theorem lvk_i {n i : Nat} {v : Int32} {lv : List (Nat × Value)} (h2 : lvk n lv) : lvk n ((i, .int v) :: lv) := fun q hq => (List.mem_cons.mp hq).elim (fun e => by rw [e]; trivial) (h2 q)
theorem stk_r {n c : Nat} {st : List Value} (h : c < n) (h2 : stk n st) : stk n (.ref c :: st) := fun q hq => (List.mem_cons.mp hq).elim (fun e => by rw [e]; exact Or.inl h) (h2 q)
theorem stk_i {n : Nat} {v : Int32} {st : List Value} (h2 : stk n st) : stk n (.int v :: st) := fun q hq => (List.mem_cons.mp hq).elim (fun e => by rw [e]; trivial) (h2 q)
section BBR
variable {w : go_Wd} {d bc bs : Nat} {μ : go_Mt} {pc : Nat} {lv : List (Nat × Value)} {st : List Value} {B : BB} {Z : go_ZT}
theorem bb_new {idx ci : Nat} (hd : decode μ.2.2.1 pc = .ok (.new idx, 3)) (hF : go_Cn μ.1 idx ci) (hZ : go_up Z) (hW : BW B) (hl : B.1.length < 900000) (hst : stk B.1.length st) (hlv : lvk B.1.length lv) (k : Go w d bc bs μ (pc + 3) lv (.ref B.1.length :: st) (bm (b_nw B (ci, go_N ci))) Z) : Go w d (1 + bc) (go_N ci + bs) μ pc lv st (bm B) Z := by
  refine go_new hd hF hZ (show B.1.length < 1000000 by omega) hW.2.2 hst hlv ?_
  rw [bm_nw hW]
  exact k
theorem bb_putR {c ci NN idx j q : Nat} {ty : FieldType} (hd : decode μ.2.2.1 pc = .ok (.putfield idx, 3)) (hF : go_F μ.1 idx ci j ty true) (hin : μ.2.1.name = "<init>") (hdecl : (go_cl[ci]?).map (·.1) = some μ.1) (hty : (∃ x, ty = .object x) ∨ ∃ x, ty = .array x) (hW : BW B) (hc : B.1[c]? = some (ci, NN)) (k : Go w d bc bs μ (pc + 3) lv st (bm (b_wr B c j (some q))) Z) : Go w d bc bs μ pc lv (.ref q :: .ref c :: st) (bm B) Z := by
  refine go_putRF hd hF hin hdecl hty (show B.1[c]? = _ from hc) ?_
  rw [bm_wr hW (lt_sh hc)]
  exact k
theorem bb_putQ {c ci NN idx j q : Nat} {ty : FieldType} (hd : decode μ.2.2.1 pc = .ok (.putfield idx, 3)) (hF : go_F μ.1 idx ci j ty false) (hty : (∃ x, ty = .object x) ∨ ∃ x, ty = .array x) (hW : BW B) (hc : B.1[c]? = some (ci, NN)) (k : Go w d bc bs μ (pc + 3) lv st (bm (b_wr B c j (some q))) Z) : Go w d bc bs μ pc lv (.ref q :: .ref c :: st) (bm B) Z := by
  refine go_putR hd hF hty (show B.1[c]? = _ from hc) ?_
  rw [bm_wr hW (lt_sh hc)]
  exact k
theorem bb_putI {c ci NN idx j : Nat} {x : Int32} {ty : FieldType} (hd : decode μ.2.2.1 pc = .ok (.putfield idx, 3)) (hF : go_F μ.1 idx ci j ty false) (hty : ty = .int ∨ (ty = .boolean ∧ (x = 0 ∨ x = 1))) (hW : BW B) (hc : B.1[c]? = some (ci, NN)) (k : Go w d bc bs μ (pc + 3) lv st (bm (b_wi B c j x)) Z) : Go w d bc bs μ pc lv (.int x :: .ref c :: st) (bm B) Z := by
  refine go_putI hd hF hty (show B.1[c]? = _ from hc) ?_
  rw [bm_wi hW (lt_sh hc)]
  exact k
theorem bb_na {c ci NN idx j n : Nat} {x : Int32} (hd : decode μ.2.2.1 pc = .ok (.newarray .int, 2)) (hd2 : decode μ.2.2.1 (pc + 2) = .ok (.putfield idx, 3)) (hF : go_F μ.1 idx ci j (.array .int) true) (hin : μ.2.1.name = "<init>") (hdecl : (go_cl[ci]?).map (·.1) = some μ.1) (hx : x.toNatClampNeg = n) (hx0 : ¬ x < 0) (hb : n ≤ 100000) (hZ : go_up Z) (hW : BW B) (hl : B.1.length < 900000) (hc : B.1[c]? = some (ci, NN)) (hlv : lvk B.1.length lv) (k : Go w d bc bs μ (pc + 2 + 3) lv [] (bm (b_arr B c j n)) Z) : Go w d (1 + bc) (n + bs) μ pc lv [.int x, .ref c] (bm B) Z := by
  refine go_newI hd ar_int hx0 hx hb hZ (show B.1.length < 1000000 by omega) hW.2.2 (stk_r (lt_sh hc) (stk_nil _)) hlv ?_
  rw [bm_nw hW]
  exact bb_putR hd2 hF hin hdecl (Or.inr ⟨_, rfl⟩) (BW_nw hW) (nw_k hc) k
/-- a constructor is called -/
theorem bb_callI {d2 bc2 bs2 b idx n : Nat} {μ2 : go_Mt} {as : List Value} {B' : BB} (hd : decode μ.2.2.1 pc = .ok (.invokespecial idx, 3)) (hL : go_LI μ.1 idx μ2 n) (hc : Ct w d2 bc2 bs2 μ2 (.ref b :: as) (bm B) (fun r' M' => r' = none ∧ M' = bm B')) (hn : as.length = n) (hdd : d2 + 1 ≤ d) (hst : (st.map fun v => v.category).sum ≤ 8) (hZ : go_up Z) {st0 : List Value} (hs0 : as.reverse ++ .ref b :: st = st0) (hs : stk B.1.length st) (hlv : lvk B.1.length lv)
    (k : Go w d bc bs μ (pc + 3) lv st (bm B') Z) : Go w d (bc2 + bc) (bs2 + bs) μ pc lv st0 (bm B) Z := by
  refine go_callI hd hL hc hn hdd hst hZ hs0 (fun r M' h => Or.inr ⟨hs, hlv⟩) (fun r M' h => ?_)
  obtain ⟨rfl, rfl⟩ := h
  exact k
theorem bb_callIN {d2 bc2 bs2 b idx n : Nat} {μ2 : go_Mt} {as : List Value} {B' : BB} (hd : decode μ.2.2.1 pc = .ok (.invokespecial idx, 3)) (hL : go_LIN μ.1 idx μ2 n) (hc : Ct w d2 bc2 bs2 μ2 (.ref b :: as) (bm B) (fun r' M' => r' = none ∧ M' = bm B')) (hn : as.length = n) (hdd : d2 + 1 ≤ d) (hst : (st.map fun v => v.category).sum ≤ 8) (hZ : go_up Z) {st0 : List Value} (hs0 : as.reverse ++ .ref b :: st = st0) (hs : stk B.1.length st) (hlv : lvk B.1.length lv)
    (k : Go w d bc bs μ (pc + 3) lv st (bm B') Z) : Go w d (bc2 + bc) (bs2 + bs) μ pc lv st0 (bm B) Z := by
  refine go_callIN hd hL hc hn hdd hst hZ hs0 (fun r M' h => Or.inr ⟨hs, hlv⟩) (fun r M' h => ?_)
  obtain ⟨rfl, rfl⟩ := h
  exact k
end BBR
