/-! ===== the memory while it is made: ints and references as lists of lists ===== -/
def go_rs {α : Type} (d : α) (r : List α) (j : Nat) (v : α) : List α := (r ++ List.replicate (j + 1 - r.length) d).set j v
theorem go_rs_get {α : Type} (d : α) (r : List α) (j : Nat) (v : α) (i : Nat) : (go_rs d r j v).getD i d = if i = j then v else r.getD i d := by
  unfold go_rs
  rw [List.getD_eq_getElem?_getD, List.getD_eq_getElem?_getD]
  by_cases h : i = j
  · subst h
    rw [if_pos rfl, List.getElem?_set_self (by rw [List.length_append, List.length_replicate]; omega)]
    rfl
  · rw [if_neg h, List.getElem?_set_ne (Ne.symm h)]
    by_cases hl : i < r.length
    · rw [List.getElem?_append_left hl]
    · rw [List.getElem?_append_right (by omega), List.getElem?_eq_none (l := r) (by omega)]
      by_cases hk : i - r.length < j + 1 - r.length
      · rw [List.getElem?_replicate, if_pos hk]
        rfl
      · rw [List.getElem?_replicate, if_neg hk]
def go_lm (sh : List (Nat × Nat)) (I : List (List Int32)) (L : List (List (Option Nat))) : go_M := (sh, fun c i => (I.getD c []).getD i 0, fun _ _ => 0, fun c j => (L.getD c []).getD j none)
theorem go_ls_up {α : Type} (d : α) (L : List (List α)) (c j : Nat) (v : α) (hc : c < L.length) : va_up (fun c j => (L.getD c []).getD j d) c (va_up ((fun c j => (L.getD c []).getD j d) c) j v) = fun c' j' => ((L.set c (go_rs d (L.getD c []) j v)).getD c' []).getD j' d := by
  funext c' j'
  unfold va_up
  by_cases h : c' = c
  · subst h
    rw [if_pos rfl]
    rw [List.getD_eq_getElem?_getD (l := L.set _ _), List.getElem?_set_self hc]
    show _ = (go_rs d (L.getD c' []) j v).getD j' d
    rw [go_rs_get]
  · rw [if_neg h, List.getD_eq_getElem?_getD (l := L.set _ _), List.getElem?_set_ne (Ne.symm h), ← List.getD_eq_getElem?_getD]
theorem go_lm_wr (sh : List (Nat × Nat)) (I : List (List Int32)) (L : List (List (Option Nat))) (c j : Nat) (v : Option Nat) (hc : c < L.length) : go_wr (go_lm sh I L) c j v = go_lm sh I (L.set c (go_rs none (L.getD c []) j v)) := by
  unfold go_wr go_lm
  rw [go_ls_up none L c j v hc]
theorem go_lm_wi (sh : List (Nat × Nat)) (I : List (List Int32)) (L : List (List (Option Nat))) (c j : Nat) (v : Int32) (hc : c < I.length) : go_wi (go_lm sh I L) c j v = go_lm sh (I.set c (go_rs 0 (I.getD c []) j v)) L := by
  unfold go_wi go_lm
  have h := go_ls_up 0 I c j v hc
  have e : va_up ((fun c j => (I.getD c []).getD j 0) c) j v = upd ((fun c j => (I.getD c []).getD j 0) c) j v := rfl
  rw [e] at h
  rw [h]
theorem go_ls_new {α : Type} (d : α) (L : List (List α)) (n : Nat) (hn : L.length = n) : va_up (fun c j => (L.getD c []).getD j d) n (fun _ => d) = fun c' j' => ((L ++ [[]]).getD c' []).getD j' d := by
  funext c' j'
  unfold va_up
  subst hn
  rw [List.getD_eq_getElem?_getD (l := L ++ [[]])]
  by_cases h : c' = L.length
  · subst h
    rw [if_pos rfl, List.getElem?_append_right (Nat.le_refl _), Nat.sub_self]
    rfl
  · rw [if_neg h]
    by_cases hl : c' < L.length
    · rw [List.getElem?_append_left hl, ← List.getD_eq_getElem?_getD]
    · have e1 : L[c']? = none := List.getElem?_eq_none (by omega)
      have e2 : (L ++ [[]])[c']? = none := List.getElem?_eq_none (by rw [List.length_append, List.length_singleton]; omega)
      rw [e2]
      show (L.getD c' []).getD j' d = _
      rw [List.getD_eq_getElem?_getD (l := L), e1]
theorem go_lm_nw (sh : List (Nat × Nat)) (I : List (List Int32)) (L : List (List (Option Nat))) (k : Nat × Nat) (hI : I.length = sh.length) (hL : L.length = sh.length) : go_nw (go_lm sh I L) k = go_lm (sh ++ [k]) (I ++ [[]]) (L ++ [[]]) := by
  unfold go_nw go_lm
  have h1 := go_ls_new 0 I sh.length hI
  have h2 := go_ls_new none L sh.length hL
  have h3 : va_up (fun (_ _ : Nat) => (0 : Int64)) sh.length (fun _ => 0) = fun _ _ => 0 := by
    funext a b
    unfold va_up
    split <;> rfl
  show (sh ++ [k], va_up _ sh.length _, va_up _ sh.length _, va_up _ sh.length _) = _
  rw [h1, h2, h3]
