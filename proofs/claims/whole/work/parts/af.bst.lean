/-! ===== the memory while it is made: what each step leaves ===== -/
def brf (B : BB) (c j : Nat) : Option Nat := (B.2.2.getD c []).getD j none
theorem brf_nw (B : BB) (k : Nat × Nat) (c j : Nat) : brf (b_nw B k) c j = brf B c j := by
  show ((B.2.2 ++ [[]]).getD c []).getD j none = (B.2.2.getD c []).getD j none
  rw [List.getD_eq_getElem?_getD (l := B.2.2 ++ [[]]), List.getD_eq_getElem?_getD (l := B.2.2)]
  by_cases h : c < B.2.2.length
  · rw [List.getElem?_append_left h]
  · rw [List.getElem?_append_right (by omega), List.getElem?_eq_none (l := B.2.2) (by omega)]
    by_cases h2 : c - B.2.2.length = 0
    · rw [h2]
      rfl
    · rw [List.getElem?_eq_none (show [([] : List (Option Nat))].length ≤ c - B.2.2.length by show 1 ≤ _; omega)]
theorem brf_wr {B : BB} {c j : Nat} {v : Option Nat} (hc : c < B.2.2.length) (c' j' : Nat) : brf (b_wr B c j v) c' j' = if c' = c ∧ j' = j then v else brf B c' j' := by
  show ((B.2.2.set c (go_rs none (B.2.2.getD c []) j v)).getD c' []).getD j' none = _
  by_cases h : c' = c
  · subst h
    rw [List.getD_eq_getElem?_getD (l := B.2.2.set _ _), List.getElem?_set_self hc]
    show (go_rs none (B.2.2.getD c' []) j v).getD j' none = _
    rw [go_rs_get]
    by_cases h2 : j' = j
    · rw [if_pos h2, if_pos ⟨rfl, h2⟩]
    · rw [if_neg h2, if_neg (fun z => h2 z.2)]
      rfl
  · rw [if_neg (fun z => h z.1), List.getD_eq_getElem?_getD (l := B.2.2.set _ _), List.getElem?_set_ne (Ne.symm h), ← List.getD_eq_getElem?_getD]
    rfl
theorem st_nw {B : BB} (h : BW B) (k : Nat × Nat) : ∃ X, X = b_nw B k ∧ BW X ∧ X.1.length = B.1.length + 1 ∧ (∀ (c' : Nat) (k' : Nat × Nat), B.1[c']? = some k' → X.1[c']? = some k') ∧ (∀ c' j', brf X c' j' = brf B c' j') ∧ X.1[B.1.length]? = some k := ⟨_, rfl, BW_nw h, nw_l B k, fun _ _ => nw_k, brf_nw B k, nw_n⟩
theorem st_wr {B : BB} {c j q : Nat} (h : BW B) (hc : c < B.1.length) (hq : q < B.1.length) : ∃ X, X = b_wr B c j (some q) ∧ BW X ∧ X.1.length = B.1.length + 0 ∧ (∀ (c' : Nat) (k' : Nat × Nat), B.1[c']? = some k' → X.1[c']? = some k') ∧ (∀ c' j', ¬ (c' = c ∧ j' = j) → brf X c' j' = brf B c' j') ∧ brf X c j = some q := by
  have hc2 : c < B.2.2.length := by rw [h.2.1]; exact hc
  exact ⟨_, rfl, BW_wr h hc hq, rfl, fun _ _ z => z, fun c' j' z => by rw [brf_wr hc2, if_neg z], by rw [brf_wr hc2, if_pos ⟨rfl, rfl⟩]⟩
theorem st_wi {B : BB} {c j : Nat} {v : Int32} (h : BW B) : ∃ X, X = b_wi B c j v ∧ BW X ∧ X.1.length = B.1.length + 0 ∧ (∀ (c' : Nat) (k' : Nat × Nat), B.1[c']? = some k' → X.1[c']? = some k') ∧ (∀ c' j', brf X c' j' = brf B c' j') := ⟨_, rfl, BW_wi h, rfl, fun _ _ z => z, fun _ _ => rfl⟩
theorem st_ark {B : BB} {c j : Nat} (kk : Nat × Nat) (h : BW B) (hc : c < B.1.length) : ∃ X, X = b_wr (b_nw B kk) c j (some B.1.length) ∧ BW X ∧ X.1.length = B.1.length + 1 ∧ (∀ (c' : Nat) (k' : Nat × Nat), B.1[c']? = some k' → X.1[c']? = some k') ∧ (∀ c' j', ¬ (c' = c ∧ j' = j) → brf X c' j' = brf B c' j') ∧ brf X c j = some B.1.length ∧ X.1[B.1.length]? = some kk := by
  obtain ⟨X, e, W, l, K, R, s⟩ := st_nw h kk
  obtain ⟨Y, e2, W2, l2, K2, R2, v⟩ := st_wr (c := c) (j := j) (q := B.1.length) W (by omega) (by omega)
  exact ⟨Y, by rw [e2, e], W2, by omega, fun c' k' z => K2 _ _ (K _ _ z), fun c' j' z => (R2 c' j' z).trans (R c' j'), v, K2 _ _ s⟩
theorem st_arr {B : BB} {c j n : Nat} (h : BW B) (hc : c < B.1.length) : ∃ X, X = b_arr B c j n ∧ BW X ∧ X.1.length = B.1.length + 1 ∧ (∀ (c' : Nat) (k' : Nat × Nat), B.1[c']? = some k' → X.1[c']? = some k') ∧ (∀ c' j', ¬ (c' = c ∧ j' = j) → brf X c' j' = brf B c' j') ∧ brf X c j = some B.1.length ∧ X.1[B.1.length]? = some (100, n) := st_ark (100, n) h hc
def b_arl (B : BB) (c j n : Nat) : BB := b_wr (b_nw B (101, n)) c j (some B.1.length)
def b_arz (B : BB) (c j n : Nat) : BB := b_wr (b_nw B (102, n)) c j (some B.1.length)
theorem st_arl {B : BB} {c j n : Nat} (h : BW B) (hc : c < B.1.length) : ∃ X, X = b_arl B c j n ∧ BW X ∧ X.1.length = B.1.length + 1 ∧ (∀ (c' : Nat) (k' : Nat × Nat), B.1[c']? = some k' → X.1[c']? = some k') ∧ (∀ c' j', ¬ (c' = c ∧ j' = j) → brf X c' j' = brf B c' j') ∧ brf X c j = some B.1.length ∧ X.1[B.1.length]? = some (101, n) := st_ark (101, n) h hc
theorem st_arz {B : BB} {c j n : Nat} (h : BW B) (hc : c < B.1.length) : ∃ X, X = b_arz B c j n ∧ BW X ∧ X.1.length = B.1.length + 1 ∧ (∀ (c' : Nat) (k' : Nat × Nat), B.1[c']? = some k' → X.1[c']? = some k') ∧ (∀ c' j', ¬ (c' = c ∧ j' = j) → brf X c' j' = brf B c' j') ∧ brf X c j = some B.1.length ∧ X.1[B.1.length]? = some (102, n) := st_ark (102, n) h hc
def b_fil (B : BB) (a : Nat) (v : Int32) : Nat → BB
  | 0 => B
  | n + 1 => b_wi (b_fil B a v n) a n v
theorem st_filn {B : BB} {a : Nat} {v : Int32} (h : BW B) : ∀ n, BW (b_fil B a v n) ∧ (b_fil B a v n).1 = B.1 ∧ ∀ c' j', brf (b_fil B a v n) c' j' = brf B c' j' := by
  intro n
  induction n with
  | zero => exact ⟨h, rfl, fun _ _ => rfl⟩
  | succ n ih => exact ⟨BW_wi ih.1, ih.2.1, ih.2.2⟩
theorem st_fil {B : BB} {a : Nat} {v : Int32} (h : BW B) : ∃ X, X = b_fil B a v 5 ∧ BW X ∧ X.1.length = B.1.length + 0 ∧ (∀ (c' : Nat) (k' : Nat × Nat), B.1[c']? = some k' → X.1[c']? = some k') ∧ (∀ c' j', brf X c' j' = brf B c' j') := by
  obtain ⟨k1, k2, k3⟩ := st_filn (a := a) (v := v) h 5
  exact ⟨_, rfl, k1, by rw [k2]; rfl, fun c' k' z => by rw [k2]; exact z, k3⟩
section BBS
variable {w : go_Wd} {d bc bs : Nat} {μ : go_Mt} {pc : Nat} {lv : List (Nat × Value)} {st : List Value} {B : BB} {Z : go_ZT}
theorem bb_nl {c ci NN idx j n : Nat} {x : Int32} (hd : decode μ.2.2.1 pc = .ok (.newarray .long, 2)) (hd2 : decode μ.2.2.1 (pc + 2) = .ok (.putfield idx, 3)) (hF : go_F μ.1 idx ci j (.array .long) true) (hin : μ.2.1.name = "<init>") (hdecl : (go_cl[ci]?).map (·.1) = some μ.1) (hx : x.toNatClampNeg = n) (hx0 : ¬ x < 0) (hb : n ≤ 100000) (hZ : go_up Z) (hW : BW B) (hl : B.1.length < 900000) (hc : B.1[c]? = some (ci, NN)) (hlv : lvk B.1.length lv) (k : Go w d bc bs μ (pc + 2 + 3) lv [] (bm (b_arl B c j n)) Z) : Go w d (1 + bc) (n + bs) μ pc lv [.int x, .ref c] (bm B) Z := by
  refine go_newJ hd ar_long hx0 hx hb hZ (show B.1.length < 1000000 by omega) hW.2.2 (stk_r (lt_sh hc) (stk_nil _)) hlv ?_
  rw [bm_nw hW]
  exact bb_putR hd2 hF hin hdecl (Or.inr ⟨_, rfl⟩) (BW_nw hW) (nw_k hc) k
theorem bb_nz {c ci NN idx j n : Nat} {x : Int32} (hd : decode μ.2.2.1 pc = .ok (.newarray .boolean, 2)) (hd2 : decode μ.2.2.1 (pc + 2) = .ok (.putfield idx, 3)) (hF : go_F μ.1 idx ci j (.array .boolean) true) (hin : μ.2.1.name = "<init>") (hdecl : (go_cl[ci]?).map (·.1) = some μ.1) (hx : x.toNatClampNeg = n) (hx0 : ¬ x < 0) (hb : n ≤ 100000) (hZ : go_up Z) (hW : BW B) (hl : B.1.length < 900000) (hc : B.1[c]? = some (ci, NN)) (hlv : lvk B.1.length lv) (k : Go w d bc bs μ (pc + 2 + 3) lv [] (bm (b_arz B c j n)) Z) : Go w d (1 + bc) (n + bs) μ pc lv [.int x, .ref c] (bm B) Z := by
  refine go_newZ hd ar_boolean hx0 hx hb hZ (show B.1.length < 1000000 by omega) hW.2.2 (stk_r (lt_sh hc) (stk_nil _)) hlv ?_
  rw [bm_nw hW]
  exact bb_putR hd2 hF hin hdecl (Or.inr ⟨_, rfl⟩) (BW_nw hW) (nw_k hc) k
theorem bb_newT {n : Int32} {N idx : Nat} (hd : decode μ.2.2.1 pc = .ok (.anewarray idx, 3)) (hcl : Cond.classLink μ.1 idx RX8 ∈ go_all) (hn : ¬ n < 0) (hN : n.toNatClampNeg = N) (hb : N ≤ 100000) (hZ : go_up Z) (hW : BW B) (hl : B.1.length < 900000) (hst : stk B.1.length st) (hlv : lvk B.1.length lv) (k : Go w d bc bs μ (pc + 3) lv (.ref B.1.length :: st) (bm (b_nw B (103, N))) Z) : Go w d (1 + bc) (N + bs) μ pc lv (.int n :: st) (bm B) Z := by
  refine go_newT hd hcl hn hN hb hZ (show B.1.length < 1000000 by omega) hW.2.2 hst hlv ?_
  rw [bm_nw hW]
  exact k
theorem bb_newW {n : Int32} {N idx : Nat} (hd : decode μ.2.2.1 pc = .ok (.anewarray idx, 3)) (hcl : Cond.classLink μ.1 idx RX10 ∈ go_all) (hn : ¬ n < 0) (hN : n.toNatClampNeg = N) (hb : N ≤ 100000) (hZ : go_up Z) (hW : BW B) (hl : B.1.length < 900000) (hst : stk B.1.length st) (hlv : lvk B.1.length lv) (k : Go w d bc bs μ (pc + 3) lv (.ref B.1.length :: st) (bm (b_nw B (104, N))) Z) : Go w d (1 + bc) (N + bs) μ pc lv (.int n :: st) (bm B) Z := by
  refine go_newW hd hcl hn hN hb hZ (show B.1.length < 1000000 by omega) hW.2.2 hst hlv ?_
  rw [bm_nw hW]
  exact k
theorem bb_astT {c n q nn j : Nat} {i : Int32} (hd : decode μ.2.2.1 pc = .ok (.aastore, 1)) (hj : i.toNatClampNeg = j) (hW : BW B) (hk : B.1[c]? = some (103, n)) (hq : B.1[q]? = some (8, nn)) (hin : vp_in i n) (k : Go w d bc bs μ (pc + 1) lv st (bm (b_wr B c j (some q))) Z) : Go w d bc bs μ pc lv (.ref q :: .int i :: .ref c :: st) (bm B) Z := by
  refine go_astT hd (show B.1[c]? = _ from hk) (show B.1[q]? = _ from hq) hin ?_
  rw [hj, bm_wr hW (lt_sh hk)]
  exact k
theorem bb_astW {c n q nn j : Nat} {i : Int32} (hd : decode μ.2.2.1 pc = .ok (.aastore, 1)) (hj : i.toNatClampNeg = j) (hW : BW B) (hk : B.1[c]? = some (104, n)) (hq : B.1[q]? = some (10, nn)) (hin : vp_in i n) (k : Go w d bc bs μ (pc + 1) lv st (bm (b_wr B c j (some q))) Z) : Go w d bc bs μ pc lv (.ref q :: .int i :: .ref c :: st) (bm B) Z := by
  refine go_astW hd (show B.1[c]? = _ from hk) (show B.1[q]? = _ from hq) hin ?_
  rw [hj, bm_wr hW (lt_sh hk)]
  exact k
theorem bb_ist {c n j : Nat} {i x : Int32} (hd : decode μ.2.2.1 pc = .ok (.iastore, 1)) (hj : i.toNatClampNeg = j) (hW : BW B) (hk : B.1[c]? = some (100, n)) (hin : vp_in i n) (k : Go w d bc bs μ (pc + 1) lv st (bm (b_wi B c j x)) Z) : Go w d bc bs μ pc lv (.int x :: .int i :: .ref c :: st) (bm B) Z := by
  refine go_ist hd (show B.1[c]? = _ from hk) hin ?_
  rw [hj, bm_wi hW (lt_sh hk)]
  exact k
end BBS
theorem vp_n {i n : Nat} (h : i < n) (hn : n < 2147483648) : vp_in (nI i) n := fun z => z.elim (nI_pos (by omega)) (fun y => by
  rw [cl_n (show i < 2147483648 by omega)] at y
  omega)
/-- Arrays.fill of five ints -/
theorem ci_fill {w : go_Wd} {B : BB} {a : Nat} {v : Int32} (hW : BW B) (ha : B.1[a]? = some (100, 5)) : Ct w 0 0 0 mtJ7_fill_53178 [.ref a, .int v] (bm B) (fun r' M' => r' = none ∧ M' = bm (b_fil B a v 5)) := by
  refine go_entry rfl (by decide) (Nat.le_of_ble_eq_true rfl) ?_
  show Go w 0 0 0 mtJ7_fill_53178 0 [(0, .ref a), (1, .int v)] [] (bm B) (go_Z w _)
  refine go_iconst (v := 0) dJ7_fill_53178_0 (by decide) ?_
  refine go_istore_n dJ7_fill_53178_1 (by decide) rfl ?_
  show Go w 0 0 0 mtJ7_fill_53178 2 [(2, .int 0), (0, .ref a), (1, .int v)] [] (bm B) (go_Z w _)
  refine go_aload_n dJ7_fill_53178_2 1 rfl ?_
  refine go_alen (v := 5) dJ7_fill_53178_3 (show B.1[a]? = _ from ha) (by decide) ?_
  refine go_istore_n dJ7_fill_53178_4 (by decide) rfl ?_
  show Go w 0 0 0 mtJ7_fill_53178 5 [(3, .int 5), (2, .int 0), (0, .ref a), (1, .int v)] [] (bm B) (go_Z w _)
  refine go_pick [2, 3, 1, 0] rfl ?_
  have LP : ∀ k i, i + k = 5 → Go w 0 0 0 mtJ7_fill_53178 5 [(0, .ref a), (1, .int v), (2, .int (nI i)), (3, .int 5)] [] (bm (b_fil B a v i)) (go_Z w (fun r' M' => r' = none ∧ M' = bm (b_fil B a v 5))) := by
    intro k
    induction k with
    | zero =>
      intro i hi
      have e : i = 5 := by omega
      subst e
      refine go_iload_n dJ7_fill_53178_5 2 rfl ?_
      refine go_iload_n dJ7_fill_53178_6 3 rfl ?_
      refine go_icmp_ge 20 dJ7_fill_53178_7 (by decide) (fun _ => ?_) (fun hc => absurd (show (5 : Int32) ≤ nI 5 by decide) hc)
      exact go_vret dJ7_fill_53178_20 rfl ⟨rfl, rfl⟩
    | succ k ih =>
      intro i hi
      obtain ⟨k1, k2, -⟩ := st_filn (a := a) (v := v) hW i
      refine go_iload_n dJ7_fill_53178_5 2 rfl ?_
      refine go_iload_n dJ7_fill_53178_6 3 rfl ?_
      refine go_icmp_ge 20 dJ7_fill_53178_7 (by decide) (fun hc => absurd hc (show ¬ (5 : Int32) ≤ nI i by rw [l_le (n := 5) (by omega) (by omega)]; omega)) (fun _ => ?_)
      refine go_aload_n dJ7_fill_53178_10 0 rfl ?_
      refine go_iload_n dJ7_fill_53178_11 2 rfl ?_
      refine go_iload_n dJ7_fill_53178_12 1 rfl ?_
      refine bb_ist (j := i) (n := 5) dJ7_fill_53178_13 (cl_n (by omega)) k1 (by rw [k2]; exact ha) (vp_n (by omega) (by omega)) ?_
      refine go_iinc (v := nI (i + 1)) dJ7_fill_53178_14 2 rfl (add_l 1 i) (by decide) rfl ?_
      show Go w 0 0 0 mtJ7_fill_53178 17 [(2, .int (nI (i + 1))), (0, .ref a), (1, .int v), (3, .int 5)] [] (bm (b_fil B a v (i + 1))) (go_Z w _)
      refine go_goto 5 dJ7_fill_53178_17 (by decide) ?_
      exact go_pick [1, 2, 0, 3] rfl (ih (i + 1) (by omega))
  exact LP 5 0 (by omega)
theorem bb_fill {w : go_Wd} {d bc bs : Nat} {μ : go_Mt} {pc idx : Nat} {lv : List (Nat × Value)} {B : BB} {Z : go_ZT} {a : Nat} {v : Int32} (hd : decode μ.2.2.1 pc = .ok (.invokestatic idx, 3)) (hL : go_LS μ.1 idx mtJ7_fill_53178 2) (hW : BW B) (_ : B.1.length < 900000) (ha : B.1[a]? = some (100, 5)) (hdd : 1 ≤ d) (hZ : go_up Z) (k : Go w d bc bs μ (pc + 3) lv [] (bm (b_fil B a v 5)) Z) : Go w d bc bs μ pc lv [.int v, .ref a] (bm B) Z := by
  have r := go_callS (bc := bc) (bs := bs) (as := [.ref a, .int v]) (st := []) (lv := lv) (Z := Z) hd hL (ci_fill (w := w) (v := v) hW ha) rfl (show 0 + 1 ≤ d by omega) (Nat.le_of_ble_eq_true rfl) hZ rfl (fun r M' h => Or.inl (by
    rw [h.2]
    show (b_fil B a v 5).1.length = B.1.length
    rw [(st_filn (a := a) (v := v) hW 5).2.1])) (fun r M' h => by
    obtain ⟨rfl, rfl⟩ := h
    exact k)
  rw [Nat.zero_add, Nat.zero_add] at r
  exact r
theorem bb_new2 {w : go_Wd} {d bc bs bc0 bs0 : Nat} {μ : go_Mt} {pc : Nat} {lv : List (Nat × Value)} {st : List Value} {B : BB} {Z : go_ZT} {idx ci : Nat} (hbc : 1 + bc = bc0) (hbs : go_N ci + bs = bs0) (hd : decode μ.2.2.1 pc = .ok (.new idx, 3)) (hF : go_Cn μ.1 idx ci) (hZ : go_up Z) (hW : BW B) (hl : B.1.length < 900000) (hst : stk B.1.length st) (hlv : lvk B.1.length lv) (k : Go w d bc bs μ (pc + 3) lv (.ref B.1.length :: st) (bm (b_nw B (ci, go_N ci))) Z) : Go w d bc0 bs0 μ pc lv st (bm B) Z := by
  subst hbc hbs
  exact bb_new hd hF hZ hW hl hst hlv k
