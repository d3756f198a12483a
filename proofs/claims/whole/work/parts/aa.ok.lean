/-! ===== what is written is in its bounds ===== -/
def pz_okc (lk : Nat) (c : pz_C) : Prop := ∀ x ∈ c, x.1 < 64 ∧ x.2 < 10000 ∧ (x.1 = 10 → x.2 + 10 ≤ lk)
def pz_okm (lk : Nat) (c : pz_C) : Prop := ∀ x ∈ c, x.1 < 64 ∧ x.2 < 10000 ∧ (x.1 = 1 → x.2 + 10 ≤ lk)
def pz_ok (lk : Nat) (c m : pz_C) : Prop := pz_okc lk c ∧ pz_okm lk m
section POK
variable {t v : Nat → Nat} {lk cnt : Nat}
theorem okc_nil : pz_okc lk [] := fun x hx => by cases hx
theorem okm_nil : pz_okm lk [] := fun x hx => by cases hx
theorem okc_app {a c : pz_C} (h : pz_okc lk a) (h2 : pz_okc lk c) : pz_okc lk (a ++ c) := fun x hx => (List.mem_append.mp hx).elim (h x) (h2 x)
theorem okm_app {a c : pz_C} (h : pz_okm lk a) (h2 : pz_okm lk c) : pz_okm lk (a ++ c) := fun x hx => (List.mem_append.mp hx).elim (h x) (h2 x)
theorem okc_c {a u : Nat} {c : pz_C} (h1 : a < 64) (h2 : u < 10000) (h3 : a = 10 → u + 10 ≤ lk) (h : pz_okc lk c) : pz_okc lk ((a, u) :: c) := fun x hx => (List.mem_cons.mp hx).elim (fun e => by rw [e]; exact ⟨h1, h2, h3⟩) (h x)
theorem okm_c {a u : Nat} {c : pz_C} (h1 : a < 64) (h2 : u < 10000) (h3 : a = 1 → u + 10 ≤ lk) (h : pz_okm lk c) : pz_okm lk ((a, u) :: c) := fun x hx => (List.mem_cons.mp hx).elim (fun e => by rw [e]; exact ⟨h1, h2, h3⟩) (h x)
def pz_okR (lk : Nat) (r : Option pz_R) : Prop := ∀ j c m, r = some (.inr (j, c, m)) → pz_ok lk c m
theorem okR_l {e : Nat × Nat} : pz_okR lk (some (.inl e)) := fun j c m h => by cases h
theorem okR_r {j : Nat} {c m : pz_C} (h1 : pz_okc lk c) (h2 : pz_okm lk m) : pz_okR lk (some (.inr (j, c, m))) := fun j c m h => by cases h; exact ⟨h1, h2⟩
theorem okR_b {r : Option pz_R} {f : Nat → pz_C → pz_C → Option pz_R} (h2 : ∀ j c m, r = some (.inr (j, c, m)) → pz_okR lk (f j c m)) : pz_okR lk (pz_bind r f) := fun j c m h => by
  rcases pz_bind_e h with ⟨e', k1, k2⟩ | ⟨j', c', m', k1, k2⟩
  · cases k2
  · exact h2 j' c' m' k1 j c m k2
theorem okR_w {x j : Nat} {A : Option pz_R} (h : t j = x → pz_okR lk A) : pz_okR lk (pz_want t x j A) := by
  unfold pz_want
  split
  next q => exact h q
  · exact okR_l
theorem okR_o {d i : Nat} {A : Option pz_R} (h : pz_okR lk A) : pz_okR lk (pz_open d i A) := by
  unfold pz_open
  split
  · exact okR_l
  · exact h
theorem okR_P (hc : t cnt = 53) (hcn : cnt ≤ 300) (ht : ∀ i, t i < 64) : ∀ N k d i p, p ≤ i → i ≤ cnt → pz_okR lk (pz_P t v lk N k d i p) := by
  intro N
  induction N with
  | zero => intro k d i p _ _ j c m h; cases h
  | succ N ih =>
    intro k d i p hp hi
    have kp : ∀ {k d i p j : Nat} {c m : pz_C}, pz_P t v lk N k d i p = some (.inr (j, c, m)) → p ≤ i → i ≤ cnt → p + c.length ≤ j ∧ j ≤ cnt ∧ i ≤ j ∧ pz_okc lk c ∧ pz_okm lk m := fun {k d i p j c m} h hp hi => by
      have l := pz_len _ _ _ _ _ _ _ _ h
      have q := pz_le hc _ _ _ _ _ _ h hi
      have q : j ≤ cnt := q
      obtain ⟨o1, o2⟩ := ih k d i p hp hi j c m h
      exact ⟨by omega, q, by omega, o1, o2⟩
    have two : ∀ k k', pz_okR lk (pz_two (pz_P t v lk N) k k' d i p) := fun k k' => okR_b fun j c m h => by
      obtain ⟨l1, l2, l3, o1, o2⟩ := kp h hp hi
      refine okR_b fun j' c' m' h' => ?_
      obtain ⟨l1', l2', l3', o1', o2'⟩ := kp h' (by omega) l2
      exact okR_r (okc_app o1 o1') (okm_app o2 o2')
    have more : ∀ (g : Nat → Option Nat) k k', (∀ x y, g x = some y → x ≠ 53 ∧ x ≠ 10 ∧ y < 64 ∧ y ≠ 1) → pz_okR lk (pz_more t (pz_P t v lk N) g k k' d i p) := fun g k k' hg => by
      unfold pz_more
      split
      · exact okR_r okc_nil okm_nil
      next y hy =>
        obtain ⟨g1, g2, g3, g4⟩ := hg _ _ hy
        have hi2 := pz_nc hc hi rfl g1
        refine okR_b fun j c m h => ?_
        obtain ⟨l1, l2, l3, o1, o2⟩ := kp h (by omega) hi2
        have l := pz_len _ _ _ _ _ _ _ _ h
        refine okR_b fun j' c' m' h' => ?_
        obtain ⟨l1', l2', l3', o1', o2'⟩ := kp h' (by omega) l2
        exact okR_r (okc_app o1 (okc_c (ht i) (by omega) (fun z => absurd z g2) o1')) (okm_app o2 (okm_c g3 (by omega) (fun z => absurd z g4) o2'))
    show pz_okR lk (pz_B t v lk (pz_P t v lk N) k d i p)
    unfold pz_B
    split
    · exact two _ _
    · exact two _ _
    · unfold pz_one
      have deep : ∀ {k x : Nat} {f : Nat → pz_C → pz_C → Option pz_R}, t i = x → x ≠ 53 → (∀ j c m, p + c.length ≤ j → j ≤ cnt → i < j → pz_okc lk c → pz_okm lk m → pz_okR lk (f j c m)) → pz_okR lk (pz_open d i (pz_bind (pz_P t v lk N k (d + 1) (i + 1) p) f)) := fun {k x f} hx h53 hf => okR_o (okR_b fun j c m h => by
        have hi2 := pz_nc hc hi hx h53
        obtain ⟨l1, l2, l3, o1, o2⟩ := kp h (by omega) hi2
        exact hf j c m l1 l2 (by omega) o1 o2)
      split
      next cn =>
        split
        · exact okR_l
        next ck => exact okR_r (okc_c (by omega) (by omega) (fun _ => by omega) okc_nil) (okm_c (by omega) (by omega) (fun _ => by omega) okm_nil)
      split
      · split
        · exact okR_l
        next ck => exact okR_r (okc_c (by omega) (by omega) (fun z => by omega) okc_nil) (okm_c (by omega) (by omega) (fun z => by omega) okm_nil)
      split
      next q => exact deep q (by decide) fun j c m _ _ _ o1 o2 => okR_w fun _ => okR_r o1 o2
      split
      next q => exact deep q (by decide) fun j c m _ _ _ o1 o2 => okR_r (okc_app o1 (okc_c (by omega) (by omega) (fun z => by omega) okc_nil)) (okm_app o2 (okm_c (by omega) (by omega) (fun z => by omega) okm_nil))
      split
      next q =>
        exact deep q (by decide) fun j c m l1 l2 l3 o1 o2 => okR_w fun hj => okR_b fun j' c' m' h' => by
          obtain ⟨-, -, -, o1', o2'⟩ := kp h' (by omega) (pz_nc hc l2 hj (by decide))
          exact okR_r (okc_app (okc_app o1 o1') (okc_c (by omega) (by omega) (fun z => by omega) okc_nil)) (okm_app (okm_app o2 o2') (okm_c (by omega) (by omega) (fun z => by omega) okm_nil))
      split
      next q => exact deep q (by decide) fun j c m _ _ _ o1 o2 => okR_r (okc_app o1 (okc_c (by omega) (by omega) (fun z => by omega) okc_nil)) (okm_app o2 (okm_c (by omega) (by omega) (fun z => by omega) okm_nil))
      split
      next q => exact okR_o (ih _ _ _ _ (by omega) (pz_nc hc hi q (by decide)))
      · exact okR_l
    · refine okR_b fun j c m h => okR_w fun hj => okR_b fun j2 c2 m2 h2 => okR_w fun hj2 => okR_b fun j3 c3 m3 h3 => okR_w fun hj3 => ?_
      obtain ⟨l1, l2, l3, o1, o2⟩ := kp h hp hi
      have i2 := pz_nc hc l2 hj (by decide)
      obtain ⟨l1', l2', l3', o1', o2'⟩ := kp h2 (by omega) i2
      have i3 := pz_nc hc l2' hj2 (by decide)
      obtain ⟨l1'', l2'', l3'', o1'', o2''⟩ := kp h3 (by omega) i3
      exact okR_r (okc_app (okc_app o1 (okc_c (by omega) (by omega) (fun z => by omega) o1')) (okc_c (by omega) (by omega) (fun z => by omega) o1'')) (okm_app (okm_app (okm_app o2 o2') o2'') (okm_c (by omega) (by omega) (fun z => by omega) okm_nil))
    · exact two _ _
    · exact two _ _
    · unfold pz_ask
      split
      next q =>
        refine okR_o (okR_b fun j c m h => ?_)
        obtain ⟨l1, l2, l3, o1, o2⟩ := kp h (by omega) (pz_nc hc hi q (by decide))
        exact okR_r (okc_app o1 (okc_c (by omega) (by omega) (fun z => by omega) okc_nil)) (okm_app o2 (okm_c (by omega) (by omega) (fun z => by omega) okm_nil))
      · refine okR_b fun j c m h => ?_
        obtain ⟨l1, l2, l3, o1, o2⟩ := kp h hp hi
        split
        · exact okR_l
        next y hy =>
          have hx := cmp_is hy
          have y1 : y < 64 ∧ y ≠ 1 := by
            unfold pz_cmp at hy
            repeat' split at hy
            all_goals first | (cases hy; done) | (cases hy; decide)
          refine okR_b fun j' c' m' h' => ?_
          obtain ⟨-, -, -, o1', o2'⟩ := kp h' (by omega) (pz_nc hc l2 rfl (by omega))
          exact okR_r (okc_app (okc_app o1 o1') (okc_c (ht j) (by omega) (fun z => by omega) okc_nil)) (okm_app (okm_app o2 o2') (okm_c y1.1 (by omega) (fun z => absurd z y1.2) okm_nil))
    · exact more _ _ _ fun x y h => by
        unfold pz_gS at h
        repeat' split at h
        all_goals first | (cases h; done) | (cases h; omega)
    · exact more _ _ _ fun x y h => by
        unfold pz_gP at h
        repeat' split at h
        all_goals first | (cases h; done) | (cases h; omega)
    · exact more _ _ _ fun x y h => by
        unfold pz_gE at h
        repeat' split at h
        all_goals first | (cases h; done) | (cases h; omega)
    · exact more _ _ _ fun x y h => by
        unfold pz_gB at h
        repeat' split at h
        all_goals first | (cases h; done) | (cases h; omega)
end POK
