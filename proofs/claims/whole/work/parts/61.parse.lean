/-! ===== reading, in the abstract: tokens by number (t), what numbers are (v); what the class makes of them (c), what the reference makes (m) ===== -/
abbrev pz_C : Type := List (Nat × Nat)
abbrev pz_R : Type := (Nat × Nat) ⊕ (Nat × pz_C × pz_C)
def pz_bind (r : Option pz_R) (f : Nat → pz_C → pz_C → Option pz_R) : Option pz_R := match r with
  | none => none
  | some (.inl e) => some (.inl e)
  | some (.inr q) => f q.1 q.2.1 q.2.2
theorem pz_bind_e {r : Option pz_R} {f : Nat → pz_C → pz_C → Option pz_R} {s : pz_R} (h : pz_bind r f = some s) : (∃ e, r = some (.inl e) ∧ s = .inl e) ∨ ∃ j c m, r = some (.inr (j, c, m)) ∧ f j c m = some s := by
  unfold pz_bind at h
  cases r with
  | none => cases h
  | some r =>
    cases r with
    | inl e => cases h; exact Or.inl ⟨e, rfl, rfl⟩
    | inr q => exact Or.inr ⟨q.1, q.2.1, q.2.2, rfl, h⟩
/-- a sign that compares, as the reference numbers it -/
def pz_cmp (x : Nat) : Option Nat := if x = 40 then some 10 else if x = 51 then some 11 else if x = 41 then some 12 else if x = 52 then some 13 else if x = 42 then some 14 else if x = 43 then some 15 else none
def pz_want (t : Nat → Nat) (x j : Nat) (A : Option pz_R) : Option pz_R := if t j = x then A else some (.inl (1, j))
def pz_open (d i : Nat) (A : Option pz_R) : Option pz_R := if 8 ≤ d then some (.inl (3, i)) else A
def pz_one (t v : Nat → Nat) (lk : Nat) (rec : Nat → Nat → Nat → Nat → Option pz_R) (d i p : Nat) : Option pz_R :=
  if 10 ≤ t i ∧ t i ≤ 18 then (if lk < t i then some (.inl (5, i)) else some (.inr (i + 1, [(10, t i - 10)], [(1, t i - 10)])))
  else if t i = 32 then (if 9999 < v i then some (.inl (2, i)) else some (.inr (i + 1, [(32, v i)], [(0, v i)])))
  else if t i = 48 then pz_open d i (pz_bind (rec 0 (d + 1) (i + 1) p) fun j c m => pz_want t 49 j (some (.inr (j + 1, c, m))))
  else if t i = 45 then pz_open d i (pz_bind (rec 2 (d + 1) (i + 1) p) fun j c m => some (.inr (j, c ++ [(55, 0)], m ++ [(5, 0)])))
  else if t i = 29 then pz_open d i (pz_bind (rec 2 (d + 1) (i + 1) p) fun j c m => pz_want t 21 j (pz_bind (rec 2 (d + 1) (j + 1) (p + c.length)) fun j' c' m' => some (.inr (j', c ++ c' ++ [(29, 0)], m ++ m' ++ [(4, 0)]))))
  else if t i = 30 then pz_open d i (pz_bind (rec 2 (d + 1) (i + 1) p) fun j c m => some (.inr (j, c ++ [(30, 0)], m ++ [(2, 0)])))
  else if t i = 22 then pz_open d i (rec 3 (d + 1) (i + 1) p)
  else some (.inl (1, i))
def pz_choice (t : Nat → Nat) (rec : Nat → Nat → Nat → Nat → Option pz_R) (d i p : Nat) : Option pz_R :=
  pz_bind (rec 4 d i p) fun j c m => pz_want t 23 j (pz_bind (rec 0 d (j + 1) (p + c.length + 1)) fun j2 c2 m2 => pz_want t 24 j2 (pz_bind (rec 0 d (j2 + 1) (p + c.length + 1 + c2.length + 1)) fun j3 c3 m3 => pz_want t 25 j3 (some (.inr (j3 + 1, c ++ (23, p + c.length + 1 + c2.length + 1) :: c2 ++ (24, p + c.length + 1 + c2.length + 1 + c3.length) :: c3, m ++ m2 ++ m3 ++ [(3, 0)])))))
/-- one of a kind, then what may follow it -/
def pz_two (rec : Nat → Nat → Nat → Nat → Option pz_R) (k k' d i p : Nat) : Option pz_R := pz_bind (rec k d i p) fun j c m => pz_bind (rec k' d j (p + c.length)) fun j' c' m' => some (.inr (j', c ++ c', m ++ m'))
/-- behind one of a kind: a sign x and another one, as often as there is one -/
def pz_more (t : Nat → Nat) (rec : Nat → Nat → Nat → Nat → Option pz_R) (g : Nat → Option Nat) (k k' d i p : Nat) : Option pz_R := match g (t i) with
  | none => some (.inr (i, [], []))
  | some y => pz_bind (rec k d (i + 1) p) fun j c m => pz_bind (rec k' d j (p + c.length + 1)) fun j' c' m' => some (.inr (j', c ++ (t i, 0) :: c', m ++ (y, 0) :: m'))
def pz_gS (x : Nat) : Option Nat := if x = 44 then some 6 else if x = 45 then some 7 else none
def pz_gP (x : Nat) : Option Nat := if x = 46 then some 8 else if x = 47 then some 9 else none
def pz_gE (x : Nat) : Option Nat := if x = 26 then some 22 else none
def pz_gB (x : Nat) : Option Nat := if x = 27 then some 21 else none
def pz_ask (t : Nat → Nat) (rec : Nat → Nat → Nat → Nat → Option pz_R) (d i p : Nat) : Option pz_R :=
  if t i = 28 then pz_open d i (pz_bind (rec 6 (d + 1) (i + 1) p) fun j c m => some (.inr (j, c ++ [(28, 0)], m ++ [(20, 0)])))
  else pz_bind (rec 0 d i p) fun j c m => match pz_cmp (t j) with
    | none => some (.inl (1, j))
    | some y => pz_bind (rec 0 d (j + 1) (p + c.length)) fun j' c' m' => some (.inr (j', c ++ c' ++ [(t j, 0)], m ++ m' ++ [(y, 0)]))
/-- kinds: 0 SUM, 1 PRODUCT, 2 ONE, 3 what is behind if, 4 EITHER, 5 BOTH, 6 ASK; 7 8 9 10 what may follow in 0 1 4 5 -/
def pz_B (t v : Nat → Nat) (lk : Nat) (rec : Nat → Nat → Nat → Nat → Option pz_R) (k d i p : Nat) : Option pz_R := match k with
  | 0 => pz_two rec 1 7 d i p
  | 1 => pz_two rec 2 8 d i p
  | 2 => pz_one t v lk rec d i p
  | 3 => pz_choice t rec d i p
  | 4 => pz_two rec 5 9 d i p
  | 5 => pz_two rec 6 10 d i p
  | 6 => pz_ask t rec d i p
  | 7 => pz_more t rec pz_gS 1 7 d i p
  | 8 => pz_more t rec pz_gP 2 8 d i p
  | 9 => pz_more t rec pz_gE 5 9 d i p
  | _ => pz_more t rec pz_gB 6 10 d i p
def pz_P (t v : Nat → Nat) (lk : Nat) : Nat → Nat → Nat → Nat → Nat → Option pz_R
  | 0 => fun _ _ _ _ => none
  | n + 1 => pz_B t v lk (pz_P t v lk n)
/-! the reference's way: what waits on a pile -/
abbrev az_S : Type := Nat × List Nat × Nat × Bool × pz_C
def az_rank (o : Nat) : Nat := if 40 ≤ o then 0 else if o = 22 then 1 else if o = 21 then 2 else if o = 20 then 3 else if 10 ≤ o then 4 else if o = 5 ∨ o = 2 ∨ o = 4 then 7 else if 8 ≤ o then 6 else 5
def az_settle (least : Nat) : List Nat → Nat → pz_C → List Nat × Nat × pz_C
  | [], o, out => ([], o, out)
  | x :: q, o, out => if least ≤ az_rank x then az_settle least q (if az_rank x = 7 ∨ x = 20 then o - 1 else o) (out ++ [(x, 0)]) else (x :: q, o, out)
def az_now (q : List Nat) : Option Nat := q.find? (fun x => decide (40 ≤ x))
def az_cmpd (q : List Nat) : Bool := match q.find? (fun x => decide (az_rank x ≤ 4)) with
  | none => false
  | some x => decide (az_rank x = 4)
def az_ask (q : List Nat) : Bool := decide (az_now q = some 42) && (match q with
  | [] => false
  | x :: _ => decide (40 ≤ x) || (decide (1 ≤ az_rank x) && decide (az_rank x ≤ 3)))
def az_endOne (t : Nat → Nat) (i : Nat) (q : List Nat) (o : Nat) (out : pz_C) : az_S ⊕ (Nat × Nat) :=
  match az_settle 7 q o out with
  | (41 :: q', o', out') => if t i = 21 then .inl (i + 1, 4 :: q', o', false, out') else .inr (1, i)
  | (q', o', out') => .inl (i, q', o', true, out')
def az_opened (i : Nat) (q : List Nat) (o : Nat) (out : pz_C) (x : Nat) : az_S ⊕ (Nat × Nat) := if o = 8 then .inr (3, i) else .inl (i + 1, x :: q, o + 1, false, out)
def az_begin (t v : Nat → Nat) (lk i : Nat) (q : List Nat) (o : Nat) (out : pz_C) : az_S ⊕ (Nat × Nat) :=
  if t i = 32 ∧ 9999 < v i then .inr (2, i)
  else if (10 ≤ t i ∧ t i ≤ 18) ∧ lk < t i then .inr (5, i)
  else if t i = 32 then az_endOne t (i + 1) q o (out ++ [(0, v i)])
  else if 10 ≤ t i ∧ t i ≤ 18 then az_endOne t (i + 1) q o (out ++ [(1, t i - 10)])
  else if t i = 48 then az_opened i q o out 40
  else if t i = 45 then az_opened i q o out 5
  else if t i = 29 then az_opened i q o out 41
  else if t i = 30 then az_opened i q o out 2
  else if t i = 22 then az_opened i q o out 42
  else if t i = 28 ∧ az_ask q = true then az_opened i q o out 20
  else .inr (1, i)
def az_between (x : Nat) (q : List Nat) : Option Nat :=
  if x = 44 then some 6 else if x = 45 then some 7 else if x = 46 then some 8 else if x = 47 then some 9
  else if az_now q ≠ some 42 then none
  else if az_cmpd q = false then pz_cmp x
  else if x = 27 then some 21 else if x = 26 then some 22 else none
def az_part (x : Nat) (q : List Nat) : Option Nat := match az_now q with
  | none => none
  | some y => if y = 40 then (if x = 49 then some 0 else none) else if y = 42 then (if x = 23 ∧ az_cmpd q = true then some 43 else none) else if y = 43 then (if x = 24 then some 44 else none) else if y = 44 then (if x = 25 then some 0 else none) else none
def az_behind (t : Nat → Nat) (i : Nat) (q : List Nat) (o : Nat) (out : pz_C) : az_S ⊕ (Nat × Nat) := match az_between (t i) q with
  | some y => .inl (i + 1, y :: (az_settle (if az_rank y = 4 then 5 else az_rank y) q o out).1, (az_settle (if az_rank y = 4 then 5 else az_rank y) q o out).2.1, false, (az_settle (if az_rank y = 4 then 5 else az_rank y) q o out).2.2)
  | none => match az_part (t i) q with
    | none => if az_now q = none then .inr (0, i) else .inr (1, i)
    | some 0 => az_endOne t (i + 1) (az_settle 1 q o out).1.tail ((az_settle 1 q o out).2.1 - 1) (if az_now q = some 44 then (az_settle 1 q o out).2.2 ++ [(3, 0)] else (az_settle 1 q o out).2.2)
    | some y => .inl (i + 1, y :: (az_settle 1 q o out).1.tail, (az_settle 1 q o out).2.1, false, (az_settle 1 q o out).2.2)
def az_step (t v : Nat → Nat) (lk : Nat) (s : az_S) : az_S ⊕ (Nat × Nat) := if s.2.2.2.1 = true then az_behind t s.1 s.2.1 s.2.2.1 s.2.2.2.2 else az_begin t v lk s.1 s.2.1 s.2.2.1 s.2.2.2.2
/-- the pile stays small, and no more is written than was read -/
def az_G (s : az_S) : Prop := s.2.1.length ≤ 120 ∧ s.2.2.2.2.length + s.2.1.length ≤ s.1
def az_reach (t v : Nat → Nat) (lk : Nat) : Nat → az_S → az_S → Prop
  | 0, s, s' => s = s'
  | n + 1, s, s' => az_G s ∧ ∃ s1, az_step t v lk s = .inl s1 ∧ az_reach t v lk n s1 s'
def az_to (t v : Nat → Nat) (lk : Nat) (s s' : az_S) : Prop := ∃ n, az_reach t v lk n s s'
def az_fail (t v : Nat → Nat) (lk : Nat) (s : az_S) (e : Nat × Nat) : Prop := ∃ s', az_to t v lk s s' ∧ az_G s' ∧ az_step t v lk s' = .inr e
section AZ
variable {t v : Nat → Nat} {lk : Nat}
theorem az_rfl (s : az_S) : az_to t v lk s s := ⟨0, rfl⟩
theorem az_reach_tr : ∀ {n k : Nat} {a b c : az_S}, az_reach t v lk n a b → az_reach t v lk k b c → az_reach t v lk (n + k) a c := by
  intro n
  induction n with
  | zero => intro k a b c h h2; cases h; rw [Nat.zero_add]; exact h2
  | succ n ih =>
    intro k a b c h h2
    obtain ⟨hG, s1, h1, h3⟩ := h
    rw [Nat.succ_add]
    exact ⟨hG, s1, h1, ih h3 h2⟩
theorem az_tr {a b c : az_S} (h : az_to t v lk a b) (h2 : az_to t v lk b c) : az_to t v lk a c := by
  obtain ⟨n, hn⟩ := h
  obtain ⟨k, hk⟩ := h2
  exact ⟨n + k, az_reach_tr hn hk⟩
theorem az_one {a b : az_S} (hG : az_G a) (h : az_step t v lk a = .inl b) : az_to t v lk a b := ⟨1, hG, b, h, rfl⟩
theorem az_fl {a b : az_S} {e : Nat × Nat} (h : az_to t v lk a b) (h2 : az_fail t v lk b e) : az_fail t v lk a e := by
  obtain ⟨s', h3, h4⟩ := h2
  exact ⟨s', az_tr h h3, h4⟩
theorem az_f1 {a : az_S} {e : Nat × Nat} (hG : az_G a) (h : az_step t v lk a = .inr e) : az_fail t v lk a e := ⟨a, az_rfl a, hG, h⟩
/-- whatever comes of the next step: on, or a fault -/
def az_goes (t v : Nat → Nat) (lk : Nat) (s : az_S) (r : az_S ⊕ (Nat × Nat)) : Prop := ∃ s', az_to t v lk s s' ∧ az_G s' ∧ az_step t v lk s' = r
theorem az_goes_l {s s' : az_S} (h : az_goes t v lk s (.inl s')) : az_to t v lk s s' := by
  obtain ⟨s1, h1, h2, h3⟩ := h
  exact az_tr h1 (az_one h2 h3)
theorem az_goes_r {s : az_S} {e : Nat × Nat} (h : az_goes t v lk s (.inr e)) : az_fail t v lk s e := h
theorem az_goes_t {a b : az_S} {r : az_S ⊕ (Nat × Nat)} (h : az_to t v lk a b) (h2 : az_goes t v lk b r) : az_goes t v lk a r := by
  obtain ⟨s', h3, h4⟩ := h2
  exact ⟨s', az_tr h h3, h4⟩
theorem az_goes_1 {a : az_S} {r : az_S ⊕ (Nat × Nat)} (hG : az_G a) (h : az_step t v lk a = r) : az_goes t v lk a r := ⟨a, az_rfl a, hG, h⟩
end AZ
/-! what a settling does -/
def az_n (q : List Nat) : Nat := q.countP (fun x => decide (x = 20))
def az_o (q : List Nat) : pz_C := q.map (fun x => (x, 0))
theorem az_o_app (a b : List Nat) : az_o (a ++ b) = az_o a ++ az_o b := List.map_append
/-- the top of a pile binds no closer than r, and isn't the first part of digit -/
def az_lo (r : Nat) (q : List Nat) : Prop := ∀ x, q.head? = some x → az_rank x ≤ r ∧ x ≠ 41
theorem az_settle_0 {least : Nat} {q : List Nat} {o : Nat} {out : pz_C} (h : ∀ x, q.head? = some x → az_rank x < least) : az_settle least q o out = (q, o, out) := by
  cases q with
  | nil => rfl
  | cons x q =>
    have := h x rfl
    rw [az_settle, if_neg (by omega)]
theorem az_settle_p {least : Nat} : ∀ {pd q : List Nat} {o : Nat} {out : pz_C}, (∀ x ∈ pd, least ≤ az_rank x ∧ az_rank x ≠ 7) → (∀ x, q.head? = some x → az_rank x < least) → az_settle least (pd ++ q) (o + az_n pd) out = (q, o, out ++ az_o pd) := by
  intro pd
  induction pd with
  | nil =>
    intro q o out _ hq
    show az_settle least q (o + 0) out = _
    rw [az_settle_0 hq]
    simp [az_o]
  | cons x pd ih =>
    intro q o out hp hq
    have hx := hp x List.mem_cons_self
    have hn : az_n (x :: pd) = az_n pd + (if x = 20 then 1 else 0) := by
      unfold az_n
      rw [List.countP_cons]
      by_cases h : x = 20 <;> simp [h]
    have e : (if az_rank x = 7 ∨ x = 20 then o + az_n (x :: pd) - 1 else o + az_n (x :: pd)) = o + az_n pd := by
      rw [hn]
      by_cases h : x = 20
      · rw [if_pos (Or.inr h), if_pos h]; omega
      · rw [if_neg (fun q => q.elim hx.2 h), if_neg h]; omega
    show az_settle least (x :: (pd ++ q)) _ out = _
    rw [az_settle, if_pos hx.1, e, ih (fun y hy => hp y (List.mem_cons_of_mem _ hy)) hq]
    simp [az_o]
theorem az_n_0 {pd : List Nat} (h : ∀ x ∈ pd, 4 ≤ az_rank x) : az_n pd = 0 := by
  unfold az_n
  rw [List.countP_eq_zero]
  intro x hx hd
  have h1 := h x hx
  have h2 : x = 20 := of_decide_eq_true hd
  rw [h2] at h1
  exact absurd h1 (by decide)
theorem az_now_p {pd q : List Nat} (h : ∀ x ∈ pd, 1 ≤ az_rank x) : az_now (pd ++ q) = az_now q := by
  unfold az_now
  rw [List.find?_append]
  have : pd.find? (fun x => decide (40 ≤ x)) = none := by
    rw [List.find?_eq_none]
    intro x hx hd
    have h1 := h x hx
    have h2 : 40 ≤ x := of_decide_eq_true hd
    unfold az_rank at h1
    rw [if_pos h2] at h1
    omega
  rw [this]
  rfl
theorem az_cmpd_p {pd q : List Nat} (h : ∀ x ∈ pd, 5 ≤ az_rank x) : az_cmpd (pd ++ q) = az_cmpd q := by
  unfold az_cmpd
  rw [List.find?_append]
  have : pd.find? (fun x => decide (az_rank x ≤ 4)) = none := by
    rw [List.find?_eq_none]
    intro x hx hd
    have h1 := h x hx
    have h2 : az_rank x ≤ 4 := of_decide_eq_true hd
    omega
  rw [this]
  rfl
theorem az_cmpd_t {x : Nat} {q : List Nat} (h : az_rank x ≤ 4) : az_cmpd (x :: q) = decide (az_rank x = 4) := by
  unfold az_cmpd
  rw [List.find?_cons_of_pos (by exact decide_eq_true h)]
/-- one that ends behind what waits for it alone -/
theorem az_end_u {t : Nat → Nat} {x i : Nat} {q : List Nat} {o : Nat} {out : pz_C} (h : az_rank x = 7) : az_endOne t i (x :: q) (o + 1) out = az_endOne t i q o (out ++ [(x, 0)]) := by
  unfold az_endOne
  rw [az_settle, if_pos (by omega), if_pos (Or.inl h)]
  rfl
theorem az_end_lo {t : Nat → Nat} {i : Nat} {q : List Nat} {o : Nat} {out : pz_C} (h : az_lo 6 q) : az_endOne t i q o out = .inl (i, q, o, true, out) := by
  unfold az_endOne
  rw [az_settle_0 (fun x hx => by have := h x hx; omega)]
  cases q with
  | nil => rfl
  | cons x q =>
    have := (h x rfl).2
    split
    · rename_i heq
      cases heq
      exact absurd rfl this
    · rename_i heq
      cases heq
      rfl
theorem az_end_d {t : Nat → Nat} {i : Nat} {q : List Nat} {o : Nat} {out : pz_C} : az_endOne t i (41 :: q) o out = if t i = 21 then .inl (i + 1, 4 :: q, o, false, out) else .inr (1, i) := by
  unfold az_endOne
  rw [az_settle_0 (fun x hx => by cases hx; decide)]
  rfl
/-! how far reading comes -/
theorem pz_len {t v : Nat → Nat} {lk : Nat} : ∀ n k d i p j c m, pz_P t v lk n k d i p = some (.inr (j, c, m)) → c.length + i ≤ j ∧ m.length + i ≤ j ∧ (k < 7 → i < j) := by
  intro n
  induction n with
  | zero => intro k d i p j c m h; cases h
  | succ n ih =>
    have two : ∀ k k' d i p j c m, k < 7 → pz_two (pz_P t v lk n) k k' d i p = some (.inr (j, c, m)) → c.length + i ≤ j ∧ m.length + i ≤ j ∧ i < j := by
      intro k k' d i p j c m hk h
      rcases pz_bind_e h with ⟨e, -, h2⟩ | ⟨j1, c1, m1, h1, h⟩
      · cases h2
      rcases pz_bind_e h with ⟨e, -, h2⟩ | ⟨j2, c2, m2, h2, h⟩
      · cases h2
      cases h
      have a := ih _ _ _ _ _ _ _ h1
      have b := ih _ _ _ _ _ _ _ h2
      have a2 := a.2.2 hk
      simp only [List.length_append]
      omega
    have more : ∀ g k k' d i p j c m, k < 7 → pz_more t (pz_P t v lk n) g k k' d i p = some (.inr (j, c, m)) → c.length + i ≤ j ∧ m.length + i ≤ j := by
      intro g k k' d i p j c m hk h
      unfold pz_more at h
      split at h
      · cases h; simp
      · rcases pz_bind_e h with ⟨e, -, h2⟩ | ⟨j1, c1, m1, h1, h⟩
        · cases h2
        rcases pz_bind_e h with ⟨e, -, h2⟩ | ⟨j2, c2, m2, h2, h⟩
        · cases h2
        cases h
        have a := ih _ _ _ _ _ _ _ h1
        have b := ih _ _ _ _ _ _ _ h2
        have a2 := a.2.2 hk
        simp only [List.length_append, List.length_cons]
        omega
    intro k d i p j c m h
    match k, h with
    | 0, h => have := two _ _ _ _ _ _ _ _ (by omega) h; exact ⟨this.1, this.2.1, fun _ => this.2.2⟩
    | 1, h => have := two _ _ _ _ _ _ _ _ (by omega) h; exact ⟨this.1, this.2.1, fun _ => this.2.2⟩
    | 4, h => have := two _ _ _ _ _ _ _ _ (by omega) h; exact ⟨this.1, this.2.1, fun _ => this.2.2⟩
    | 5, h => have := two _ _ _ _ _ _ _ _ (by omega) h; exact ⟨this.1, this.2.1, fun _ => this.2.2⟩
    | 7, h => have := more _ _ _ _ _ _ _ _ _ (by omega) h; exact ⟨this.1, this.2, fun q => by omega⟩
    | 8, h => have := more _ _ _ _ _ _ _ _ _ (by omega) h; exact ⟨this.1, this.2, fun q => by omega⟩
    | 9, h => have := more _ _ _ _ _ _ _ _ _ (by omega) h; exact ⟨this.1, this.2, fun q => by omega⟩
    | k + 10, h => have := more _ _ _ _ _ _ _ _ _ (by omega) h; exact ⟨this.1, this.2, fun q => by omega⟩
    | 6, h =>
      change pz_ask t (pz_P t v lk n) d i p = _ at h
      unfold pz_ask pz_open at h
      split at h
      · split at h
        · cases h
        · rcases pz_bind_e h with ⟨e, -, h2⟩ | ⟨j1, c1, m1, h1, h⟩
          · cases h2
          cases h
          have a := ih _ _ _ _ _ _ _ h1
          simp only [List.length_append, List.length_singleton]
          have := a.2.2 (by omega)
          omega
      · rcases pz_bind_e h with ⟨e, -, h2⟩ | ⟨j1, c1, m1, h1, h⟩
        · cases h2
        split at h
        · cases h
        · rcases pz_bind_e h with ⟨e, -, h2⟩ | ⟨j2, c2, m2, h2, h⟩
          · cases h2
          cases h
          have a := ih _ _ _ _ _ _ _ h1
          have b := ih _ _ _ _ _ _ _ h2
          simp only [List.length_append, List.length_singleton]
          have := a.2.2 (by omega)
          have := b.2.2 (by omega)
          omega
    | 3, h =>
      change pz_choice t (pz_P t v lk n) d i p = _ at h
      unfold pz_choice pz_want at h
      rcases pz_bind_e h with ⟨e, -, h2⟩ | ⟨j1, c1, m1, h1, h⟩
      · cases h2
      split at h
      · rcases pz_bind_e h with ⟨e, -, h2⟩ | ⟨j2, c2, m2, h2, h⟩
        · cases h2
        split at h
        · rcases pz_bind_e h with ⟨e, -, h2⟩ | ⟨j3, c3, m3, h3, h⟩
          · cases h2
          split at h
          · cases h
            have a := ih _ _ _ _ _ _ _ h1
            have b := ih _ _ _ _ _ _ _ h2
            have c := ih _ _ _ _ _ _ _ h3
            simp only [List.length_append, List.length_cons, List.length_nil]
            have := a.2.2 (by omega)
            omega
          · cases h
        · cases h
      · cases h
    | 2, h =>
      change pz_one t v lk (pz_P t v lk n) d i p = _ at h
      unfold pz_one pz_open pz_want at h
      split at h
      · split at h
        · cases h
        · cases h; simp; omega
      split at h
      · split at h
        · cases h
        · cases h; simp; omega
      split at h
      · split at h
        · cases h
        rcases pz_bind_e h with ⟨e, -, h2⟩ | ⟨j1, c1, m1, h1, h⟩
        · cases h2
        split at h
        · cases h
          have a := ih _ _ _ _ _ _ _ h1
          omega
        · cases h
      split at h
      · split at h
        · cases h
        rcases pz_bind_e h with ⟨e, -, h2⟩ | ⟨j1, c1, m1, h1, h⟩
        · cases h2
        cases h
        have a := ih _ _ _ _ _ _ _ h1
        have := a.2.2 (by omega)
        simp only [List.length_append, List.length_singleton]
        omega
      split at h
      · split at h
        · cases h
        rcases pz_bind_e h with ⟨e, -, h2⟩ | ⟨j1, c1, m1, h1, h⟩
        · cases h2
        split at h
        · rcases pz_bind_e h with ⟨e, -, h2⟩ | ⟨j2, c2, m2, h2, h⟩
          · cases h2
          cases h
          have a := ih _ _ _ _ _ _ _ h1
          have b := ih _ _ _ _ _ _ _ h2
          have := a.2.2 (by omega)
          have := b.2.2 (by omega)
          simp only [List.length_append, List.length_singleton]
          omega
        · cases h
      split at h
      · split at h
        · cases h
        rcases pz_bind_e h with ⟨e, -, h2⟩ | ⟨j1, c1, m1, h1, h⟩
        · cases h2
        cases h
        have a := ih _ _ _ _ _ _ _ h1
        have := a.2.2 (by omega)
        simp only [List.length_append, List.length_singleton]
        omega
      split at h
      · split at h
        · cases h
        have a := ih _ _ _ _ _ _ _ h
        have := a.2.2 (by omega)
        omega
      · cases h
/-- what can't stand behind what was read -/
theorem pz_stop {t v : Nat → Nat} {lk : Nat} : ∀ n k d i p j c m, pz_P t v lk n k d i p = some (.inr (j, c, m)) →
    ((k = 1 ∨ k = 0 ∨ k = 6 ∨ k = 5 ∨ k = 4) → pz_gP (t j) = none) ∧ ((k = 0 ∨ k = 6 ∨ k = 5 ∨ k = 4) → pz_gS (t j) = none) ∧ ((k = 5 ∨ k = 4) → pz_gB (t j) = none) ∧ (k = 4 → pz_gE (t j) = none) ∧
    (k = 8 → pz_gP (t j) = none) ∧ (k = 7 → pz_gS (t j) = none ∧ (pz_gP (t i) = none → pz_gP (t j) = none)) ∧
    (10 ≤ k → pz_gB (t j) = none ∧ (pz_gS (t i) = none → pz_gP (t i) = none → pz_gS (t j) = none ∧ pz_gP (t j) = none)) ∧
    (k = 9 → pz_gE (t j) = none ∧ (pz_gB (t i) = none → pz_gS (t i) = none → pz_gP (t i) = none → pz_gB (t j) = none ∧ pz_gS (t j) = none ∧ pz_gP (t j) = none)) := by
  intro n
  induction n with
  | zero => intro k d i p j c m h; cases h
  | succ n ih =>
    have two : ∀ k k' d i p j c m, pz_two (pz_P t v lk n) k k' d i p = some (.inr (j, c, m)) → ∃ j1 c1 m1 p1 c2 m2, pz_P t v lk n k d i p = some (.inr (j1, c1, m1)) ∧ pz_P t v lk n k' d j1 p1 = some (.inr (j, c2, m2)) := by
      intro k k' d i p j c m h
      rcases pz_bind_e h with ⟨e, -, h2⟩ | ⟨j1, c1, m1, h1, h⟩
      · cases h2
      rcases pz_bind_e h with ⟨e, -, h2⟩ | ⟨j2, c2, m2, h2, h⟩
      · cases h2
      cases h
      exact ⟨j1, c1, m1, _, c2, m2, h1, h2⟩
    have more : ∀ g k k' d i p j c m, pz_more t (pz_P t v lk n) g k k' d i p = some (.inr (j, c, m)) → (g (t i) = none ∧ j = i) ∨ ∃ j1 c1 m1 p1 c2 m2, pz_P t v lk n k d (i + 1) p = some (.inr (j1, c1, m1)) ∧ pz_P t v lk n k' d j1 p1 = some (.inr (j, c2, m2)) := by
      intro g k k' d i p j c m h
      unfold pz_more at h
      split at h
      · rename_i hg
        cases h
        exact Or.inl ⟨hg, rfl⟩
      · rcases pz_bind_e h with ⟨e, -, h2⟩ | ⟨j1, c1, m1, h1, h⟩
        · cases h2
        rcases pz_bind_e h with ⟨e, -, h2⟩ | ⟨j2, c2, m2, h2, h⟩
        · cases h2
        cases h
        exact Or.inr ⟨j1, c1, m1, _, c2, m2, h1, h2⟩
    intro k d i p j c m h
    match k, h with
    | 2, h => refine ⟨fun q => by omega, fun q => by omega, fun q => by omega, fun q => by omega, fun q => by omega, fun q => by omega, fun q => by omega, fun q => by omega⟩
    | 3, h => refine ⟨fun q => by omega, fun q => by omega, fun q => by omega, fun q => by omega, fun q => by omega, fun q => by omega, fun q => by omega, fun q => by omega⟩
    | 0, h =>
      obtain ⟨j1, c1, m1, p1, c2, m2, h1, h2⟩ := two _ _ _ _ _ _ _ _ h
      have a := (ih _ _ _ _ _ _ _ h1).1 (Or.inl rfl)
      have b := (ih _ _ _ _ _ _ _ h2).2.2.2.2.2.1 rfl
      exact ⟨fun _ => b.2 a, fun _ => b.1, fun q => by omega, fun q => by omega, fun q => by omega, fun q => by omega, fun q => by omega, fun q => by omega⟩
    | 1, h =>
      obtain ⟨j1, c1, m1, p1, c2, m2, h1, h2⟩ := two _ _ _ _ _ _ _ _ h
      have b := (ih _ _ _ _ _ _ _ h2).2.2.2.2.1 rfl
      exact ⟨fun _ => b, fun q => by omega, fun q => by omega, fun q => by omega, fun q => by omega, fun q => by omega, fun q => by omega, fun q => by omega⟩
    | 4, h =>
      obtain ⟨j1, c1, m1, p1, c2, m2, h1, h2⟩ := two _ _ _ _ _ _ _ _ h
      have a := ih _ _ _ _ _ _ _ h1
      have b := (ih _ _ _ _ _ _ _ h2).2.2.2.2.2.2.2 rfl
      have e := b.2 (a.2.2.1 (by omega)) (a.2.1 (by omega)) (a.1 (by omega))
      exact ⟨fun _ => e.2.2, fun _ => e.2.1, fun _ => e.1, fun _ => b.1, fun q => by omega, fun q => by omega, fun q => by omega, fun q => by omega⟩
    | 5, h =>
      obtain ⟨j1, c1, m1, p1, c2, m2, h1, h2⟩ := two _ _ _ _ _ _ _ _ h
      have a := ih _ _ _ _ _ _ _ h1
      have b := (ih _ _ _ _ _ _ _ h2).2.2.2.2.2.2.1 (by omega)
      have e := b.2 (a.2.1 (by omega)) (a.1 (by omega))
      exact ⟨fun _ => e.2, fun _ => e.1, fun _ => b.1, fun q => by omega, fun q => by omega, fun q => by omega, fun q => by omega, fun q => by omega⟩
    | 7, h =>
      refine ⟨fun q => by omega, fun q => by omega, fun q => by omega, fun q => by omega, fun q => by omega, fun _ => ?_, fun q => by omega, fun q => by omega⟩
      rcases more _ _ _ _ _ _ _ _ _ h with ⟨h1, rfl⟩ | ⟨j1, c1, m1, p1, c2, m2, h1, h2⟩
      · exact ⟨h1, fun q => q⟩
      · have a := (ih _ _ _ _ _ _ _ h1).1 (Or.inl rfl)
        have b := (ih _ _ _ _ _ _ _ h2).2.2.2.2.2.1 rfl
        exact ⟨b.1, fun _ => b.2 a⟩
    | 8, h =>
      refine ⟨fun q => by omega, fun q => by omega, fun q => by omega, fun q => by omega, fun _ => ?_, fun q => by omega, fun q => by omega, fun q => by omega⟩
      rcases more _ _ _ _ _ _ _ _ _ h with ⟨h1, rfl⟩ | ⟨j1, c1, m1, p1, c2, m2, h1, h2⟩
      · exact h1
      · exact (ih _ _ _ _ _ _ _ h2).2.2.2.2.1 rfl
    | 9, h =>
      refine ⟨fun q => by omega, fun q => by omega, fun q => by omega, fun q => by omega, fun q => by omega, fun q => by omega, fun q => by omega, fun _ => ?_⟩
      rcases more _ _ _ _ _ _ _ _ _ h with ⟨h1, rfl⟩ | ⟨j1, c1, m1, p1, c2, m2, h1, h2⟩
      · exact ⟨h1, fun q q2 q3 => ⟨q, q2, q3⟩⟩
      · have a := ih _ _ _ _ _ _ _ h1
        have b := (ih _ _ _ _ _ _ _ h2).2.2.2.2.2.2.2 rfl
        exact ⟨b.1, fun _ _ _ => b.2 (a.2.2.1 (by omega)) (a.2.1 (by omega)) (a.1 (by omega))⟩
    | k + 10, h =>
      refine ⟨fun q => by omega, fun q => by omega, fun q => by omega, fun q => by omega, fun q => by omega, fun q => by omega, fun _ => ?_, fun q => by omega⟩
      rcases more _ _ _ _ _ _ _ _ _ h with ⟨h1, rfl⟩ | ⟨j1, c1, m1, p1, c2, m2, h1, h2⟩
      · exact ⟨h1, fun q q2 => ⟨q, q2⟩⟩
      · have a := ih _ _ _ _ _ _ _ h1
        have b := (ih _ _ _ _ _ _ _ h2).2.2.2.2.2.2.1 (by omega)
        exact ⟨b.1, fun _ _ => b.2 (a.2.1 (by omega)) (a.1 (by omega))⟩
    | 6, h =>
      have e : pz_gP (t j) = none ∧ pz_gS (t j) = none := by
        change pz_ask t (pz_P t v lk n) d i p = _ at h
        unfold pz_ask pz_open at h
        split at h
        · split at h
          · cases h
          · rcases pz_bind_e h with ⟨e, -, h2⟩ | ⟨j1, c1, m1, h1, h⟩
            · cases h2
            cases h
            have a := ih _ _ _ _ _ _ _ h1
            exact ⟨a.1 (by omega), a.2.1 (by omega)⟩
        · rcases pz_bind_e h with ⟨e, -, h2⟩ | ⟨j1, c1, m1, h1, h⟩
          · cases h2
          split at h
          · cases h
          · rcases pz_bind_e h with ⟨e, -, h2⟩ | ⟨j2, c2, m2, h2, h⟩
            · cases h2
            cases h
            have b := ih _ _ _ _ _ _ _ h2
            exact ⟨b.1 (by omega), b.2.1 (by omega)⟩
      exact ⟨fun _ => e.1, fun _ => e.2, fun q => by omega, fun q => by omega, fun q => by omega, fun q => by omega, fun q => by omega, fun q => by omega⟩
