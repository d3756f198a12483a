/-! ===== what was read means the same to both: the class's code with its jumps, the reference's behind one another ===== -/
def ez_clip (x : Int) : Int := if 1000000 < x then 1000000 else if x < -1000000 then -1000000 else x
def ez_dig (a b : Int) : Int := if a < 0 ∨ 7 ≤ a then 0 else ((b.natAbs / 10 ^ a.toNat % 10 : Nat) : Int)
def ez_b (b : Bool) : Int := if b then 1 else 0
/-- two numbers by a token of the class -/
def ez_w (op : Nat) (a b : Int) : Int :=
  if op = 44 then ez_clip (a + b) else if op = 45 then ez_clip (a - b) else if op = 46 then ez_clip (a * b) else if op = 47 then (if b = 0 then 0 else ez_clip (a.tdiv b))
  else if op = 29 then ez_dig a b else if op = 27 then ez_clip (Int32.ofInt a &&& Int32.ofInt b).toInt else if op = 26 then ez_clip (Int32.ofInt a ||| Int32.ofInt b).toInt
  else if op = 40 then ez_b (decide (a < b)) else if op = 41 then ez_b (decide (b < a)) else if op = 42 then ez_b (decide (a = b)) else if op = 43 then ez_b (decide (a ≠ b)) else if op = 51 then ez_b (decide (a ≤ b)) else ez_b (decide (b ≤ a))
def cz_step (kn : Nat → Int) (ice : Int → Bool) (code : Nat → Nat × Nat) (s : Nat × List Int) : Option (Nat × List Int) :=
  if (code s.1).1 = 32 then some (s.1 + 1, ((code s.1).2 : Int) :: s.2)
  else if (code s.1).1 = 10 then some (s.1 + 1, kn (code s.1).2 :: s.2)
  else if (code s.1).1 = 24 then some ((code s.1).2, s.2)
  else if (code s.1).1 = 53 then none
  else match s.2 with
    | [] => none
    | x :: st => if (code s.1).1 = 23 then some (if x = 0 then (code s.1).2 else s.1 + 1, st)
      else if (code s.1).1 = 55 then some (s.1 + 1, (-x) :: st)
      else if (code s.1).1 = 28 then some (s.1 + 1, (1 - x) :: st)
      else if (code s.1).1 = 30 then some (s.1 + 1, ez_b (ice x) :: st)
      else match st with
        | [] => none
        | a :: st => some (s.1 + 1, ez_w (code s.1).1 a x :: st)
def cz_reach (kn : Nat → Int) (ice : Int → Bool) (code : Nat → Nat × Nat) : Nat → Nat × List Int → Nat × List Int → Prop
  | 0, s, s' => s = s'
  | n + 1, s, s' => s.1 < 320 ∧ s.2.length < 96 ∧ ∃ s1, cz_step kn ice code s = some s1 ∧ s.1 < s1.1 ∧ cz_reach kn ice code n s1 s'
def cz_to (kn : Nat → Int) (ice : Int → Bool) (code : Nat → Nat × Nat) (s s' : Nat × List Int) : Prop := ∃ n, cz_reach kn ice code n s s'
def cz_has (code : Nat → Nat × Nat) (p : Nat) (c : pz_C) : Prop := ∀ k, k < c.length → code (p + k) = c.getD k (0, 0)
/-- one instruction of the reference -/
def mz_step (kn : Nat → Int) (ice : Int → Bool) (o : Nat × Nat) (s : List Int × List Bool) : Option (List Int × List Bool) :=
  if o.1 = 0 then some ((o.2 : Int) :: s.1, s.2)
  else if o.1 = 1 then some (kn o.2 :: s.1, s.2)
  else if o.1 = 3 then (match s with
    | (y :: x :: vs, b :: tr) => some ((if b then x else y) :: vs, tr)
    | _ => none)
  else if o.1 = 5 then (match s with
    | (x :: vs, tr) => some (-x :: vs, tr)
    | _ => none)
  else if o.1 = 2 then (match s with
    | (x :: vs, tr) => some (ez_b (ice x) :: vs, tr)
    | _ => none)
  else if o.1 < 10 then (match s with
    | (y :: x :: vs, tr) => some ((if o.1 = 4 then ez_dig x y else if o.1 = 6 then ez_clip (x + y) else if o.1 = 7 then ez_clip (x - y) else if o.1 = 8 then ez_clip (x * y) else if y = 0 then 0 else ez_clip (x.tdiv y)) :: vs, tr)
    | _ => none)
  else if o.1 < 20 then (match s with
    | (y :: x :: vs, tr) => some (vs, (if o.1 = 10 then decide (x < y) else if o.1 = 11 then decide (x ≤ y) else if o.1 = 12 then decide (y < x) else if o.1 = 13 then decide (y ≤ x) else if o.1 = 14 then decide (x = y) else decide (x ≠ y)) :: tr)
    | _ => none)
  else if o.1 = 20 then (match s with
    | (vs, b :: tr) => some (vs, (!b) :: tr)
    | _ => none)
  else (match s with
    | (vs, b :: a :: tr) => some (vs, (if o.1 = 21 then a && b else a || b) :: tr)
    | _ => none)
def mz_run (kn : Nat → Int) (ice : Int → Bool) : pz_C → List Int × List Bool → Option (List Int × List Bool)
  | [], s => some s
  | o :: m, s => (mz_step kn ice o s).bind (mz_run kn ice m)
def ez_ok (bl : Bool) (x : Int) : Prop := if bl = true then x = 0 ∨ x = 1 else -1000000 ≤ x ∧ x ≤ 1000000
def ez_push (bl : Bool) (x : Int) (s : List Int × List Bool) : List Int × List Bool := if bl = true then (s.1, decide (x ≠ 0) :: s.2) else (x :: s.1, s.2)
def ez_g (k d : Nat) : Nat := (if k = 2 then 1 else if k = 1 then 2 else if k = 0 then 3 else if k = 6 then 4 else if k = 5 then 5 else 6) + 5 * (8 - d)
section EZ
variable {kn : Nat → Int} {ice : Int → Bool} {code : Nat → Nat × Nat}
theorem cz_rfl (s : Nat × List Int) : cz_to kn ice code s s := ⟨0, rfl⟩
theorem cz_reach_tr : ∀ {n k : Nat} {a b c : Nat × List Int}, cz_reach kn ice code n a b → cz_reach kn ice code k b c → cz_reach kn ice code (n + k) a c := by
  intro n
  induction n with
  | zero => intro k a b c h h2; cases h; rw [Nat.zero_add]; exact h2
  | succ n ih =>
    intro k a b c h h2
    obtain ⟨g1, g2, s1, h1, h3, h4⟩ := h
    rw [Nat.succ_add]
    exact ⟨g1, g2, s1, h1, h3, ih h4 h2⟩
theorem cz_tr {a b c : Nat × List Int} (h : cz_to kn ice code a b) (h2 : cz_to kn ice code b c) : cz_to kn ice code a c := by
  obtain ⟨n, hn⟩ := h
  obtain ⟨k, hk⟩ := h2
  exact ⟨n + k, cz_reach_tr hn hk⟩
theorem cz_one {a b : Nat × List Int} (h1 : a.1 < 320) (h2 : a.2.length < 96) (h : cz_step kn ice code a = some b) (h3 : a.1 < b.1) : cz_to kn ice code a b := ⟨1, h1, h2, b, h, h3, rfl⟩
theorem cz_has_app {p : Nat} {a b : pz_C} (h : cz_has code p (a ++ b)) : cz_has code p a ∧ cz_has code (p + a.length) b := by
  refine ⟨fun k hk => ?_, fun k hk => ?_⟩
  · have := h k (by rw [List.length_append]; omega)
    rw [this, List.getD_eq_getElem?_getD, List.getD_eq_getElem?_getD, List.getElem?_append_left hk]
  · have := h (a.length + k) (by rw [List.length_append]; omega)
    rw [Nat.add_assoc, this, List.getD_eq_getElem?_getD, List.getD_eq_getElem?_getD, List.getElem?_append_right (by omega)]
    congr 2
    omega
theorem cz_has_c {p : Nat} {x : Nat × Nat} {c : pz_C} (h : cz_has code p (x :: c)) : code p = x ∧ cz_has code (p + 1) c := by
  have h' : cz_has code p ([x] ++ c) := h
  obtain ⟨h1, h2⟩ := cz_has_app h'
  exact ⟨h1 0 (by simp), h2⟩
theorem mz_app (a b : pz_C) (s : List Int × List Bool) : mz_run kn ice (a ++ b) s = (mz_run kn ice a s).bind (mz_run kn ice b) := by
  induction a generalizing s with
  | nil => rfl
  | cons o a ih =>
    show (mz_step kn ice o s).bind (mz_run kn ice (a ++ b)) = ((mz_step kn ice o s).bind (mz_run kn ice a)).bind (mz_run kn ice b)
    cases mz_step kn ice o s with
    | none => rfl
    | some s' => exact ih s'
/-- as a whole, at its place -/
def ez_V (kn : Nat → Int) (ice : Int → Bool) (bl : Bool) (G p : Nat) (c m : pz_C) : Prop := ∃ x, ez_ok bl x ∧ (∀ code st, cz_has code p c → p + c.length ≤ 320 → List.length st + G ≤ 95 → cz_to kn ice code (p, st) (p + c.length, x :: st)) ∧ ∀ s, mz_run kn ice m s = some (ez_push bl x s)
def ez_V2 (kn : Nat → Int) (ice : Int → Bool) (bl : Bool) (G p : Nat) (c m : pz_C) : Prop := ∀ y, ez_ok bl y → ∃ x, ez_ok bl x ∧ (∀ code st, cz_has code p c → p + c.length ≤ 320 → List.length st + G ≤ 95 → cz_to kn ice code (p, y :: st) (p + c.length, x :: st)) ∧ ∀ s, mz_run kn ice m (ez_push bl y s) = some (ez_push bl x s)
theorem ez_V_le {bl : Bool} {G G' p : Nat} {c m : pz_C} (h : ez_V kn ice bl G p c m) (hG : G ≤ G') : ez_V kn ice bl G' p c m := by
  obtain ⟨x, h1, h2, h3⟩ := h
  exact ⟨x, h1, fun code st a b d => h2 code st a b (by omega), h3⟩
/-- two of a kind, one behind the other, then what joins them -/
theorem ez_join {bl bl' : Bool} {G G1 p : Nat} {c1 m1 c2 m2 : pz_C} {op y : Nat} (h1 : ez_V kn ice bl G1 p c1 m1) (h2 : ez_V kn ice bl G1 (p + c1.length) c2 m2) (hG : G1 + 1 ≤ G) (hG1 : 1 ≤ G1) (hop : ∀ a b, ez_ok bl a → ez_ok bl b → ez_ok bl' (ez_w op a b) ∧ ∀ s, mz_step kn ice (y, 0) (ez_push bl b (ez_push bl a s)) = some (ez_push bl' (ez_w op a b) s)) (hb : op ≠ 32 ∧ op ≠ 10 ∧ op ≠ 24 ∧ op ≠ 53 ∧ op ≠ 23 ∧ op ≠ 55 ∧ op ≠ 28 ∧ op ≠ 30) :
    ez_V kn ice bl' G p (c1 ++ c2 ++ [(op, 0)]) (m1 ++ m2 ++ [(y, 0)]) := by
  obtain ⟨a, a1, a2, a3⟩ := h1
  obtain ⟨b, b1, b2, b3⟩ := h2
  obtain ⟨o1, o2⟩ := hop a b a1 b1
  refine ⟨ez_w op a b, o1, fun code st hc hp hs => ?_, fun s => ?_⟩
  · obtain ⟨hc, hc3⟩ := cz_has_app hc
    obtain ⟨hc1, hc2⟩ := cz_has_app hc
    simp only [List.length_append, List.length_singleton] at hp hc3 ⊢
    have k1 := a2 code st hc1 (by omega) (by omega)
    have k2 := b2 code (a :: st) hc2 (by omega) (by simp only [List.length_cons]; omega)
    have hc4 := (cz_has_c hc3).1
    refine cz_tr k1 (cz_tr k2 (cz_one (by show p + c1.length + c2.length < 320; omega) (by simp only [List.length_cons]; omega) ?_ (by show p + c1.length + c2.length < _; simp only []; omega)))
    have e : p + c1.length + c2.length = p + (c1.length + c2.length) := by omega
    unfold cz_step
    simp only [e, hc4]
    rw [if_neg hb.1, if_neg hb.2.1, if_neg hb.2.2.1, if_neg hb.2.2.2.1, if_neg hb.2.2.2.2.1, if_neg hb.2.2.2.2.2.1, if_neg hb.2.2.2.2.2.2.1, if_neg hb.2.2.2.2.2.2.2]
    rfl
  · rw [mz_app, mz_app, a3 s]
    show ((mz_run kn ice m2 (ez_push bl a s)).bind _) = _
    rw [b3]
    show (mz_step kn ice (y, 0) _).bind _ = _
    rw [o2]
    rfl
end EZ
