/-! ===== ways that hold, in the abstract: askers, those who are asked; a way by asking holds, and is the best for those who ask ===== -/
def gs_p (v : Nat → Nat → Int) (i x y : Nat) : Prop := v i y < v i x ∨ (v i x = v i y ∧ x < y)
theorem gs_p_irr {v : Nat → Nat → Int} {i x : Nat} : ¬ gs_p v i x x := by unfold gs_p; omega
theorem gs_p_tr {v : Nat → Nat → Int} {i x y z : Nat} (h : gs_p v i x y) (h2 : gs_p v i y z) : gs_p v i x z := by unfold gs_p at *; omega
theorem gs_p_tot {v : Nat → Nat → Int} {i x y : Nat} (h : ¬ gs_p v i x y) : x = y ∨ gs_p v i y x := by unfold gs_p at *; omega
theorem gs_p_as {v : Nat → Nat → Int} {i x y : Nat} (h : gs_p v i x y) : ¬ gs_p v i y x := by unfold gs_p at *; omega
def gs_st (na nb : Nat) (acc : Nat → Nat → Prop) (va vb : Nat → Nat → Int) (w : Nat → Option Nat) : Prop :=
  (∀ a b, w a = some b → a < na ∧ b < nb ∧ acc a b) ∧ (∀ a a' b, w a = some b → w a' = some b → a = a') ∧
  (∀ a b, a < na → b < nb → acc a b → (∀ b', w a = some b' → gs_p va a b b') → ∃ a', w a' = some b ∧ ¬ gs_p vb b a a')
def gs_I (na nb : Nat) (acc : Nat → Nat → Prop) (va vb : Nat → Nat → Int) (has had : Nat → Option Nat) (ak : Nat → Nat → Prop) : Prop :=
  (∀ a b, has a = some b → a < na ∧ b < nb ∧ acc a b ∧ ak a b) ∧ (∀ a b, has a = some b ↔ had b = some a) ∧
  (∀ a b, ak a b → a < na ∧ b < nb ∧ acc a b ∧ ∃ a', had b = some a' ∧ ¬ gs_p vb b a a') ∧
  (∀ a b b', ak a b → b' < nb → acc a b' → gs_p va a b' b → ak a b') ∧
  (∀ a b, ak a b → has a ≠ some b → ∀ w, gs_st na nb acc va vb w → w a ≠ some b)
section GS
variable {na nb : Nat} {acc : Nat → Nat → Prop} {va vb : Nat → Nat → Int} {has had : Nat → Option Nat} {ak : Nat → Nat → Prop}
theorem gs_I0 : gs_I na nb acc va vb (fun _ => none) (fun _ => none) (fun _ _ => False) := by
  refine ⟨fun a b h => ?_, fun a b => ?_, fun a b h => h.elim, fun a b b' h => h.elim, fun a b h => h.elim⟩
  · cases h
  · exact ⟨fun h => (by cases h), fun h => (by cases h)⟩
theorem gs_no (hI : gs_I na nb acc va vb has had ak) {a b c : Nat} (hc : c < na) (hb : b < nb) (hac : acc c b) (hbest : ∀ b', b' < nb → acc c b' → gs_p va c b' b → ak c b' ∧ has c ≠ some b') (hp : gs_p vb b c a) (w : Nat → Option Nat) (hw : gs_st na nb acc va vb w) : w a ≠ some b := by
  intro hwa
  obtain ⟨h1, h2, h3⟩ := hw
  have hpre : ∀ b', w c = some b' → gs_p va c b b' := by
    intro b' hwc
    by_cases hq : gs_p va c b b'
    · exact hq
    · rcases gs_p_tot hq with he | hg
      · subst he
        have := h2 a c b hwa hwc
        subst this
        exact absurd hp gs_p_irr
      · obtain ⟨k1, k2, k3⟩ := h1 c b' hwc
        obtain ⟨k4, k5⟩ := hbest b' k2 k3 hg
        exact absurd hwc (hI.2.2.2.2 c b' k4 k5 w ⟨h1, h2, h3⟩)
  obtain ⟨a', k1, k2⟩ := h3 c b hc hb hac hpre
  have := h2 a' a b k1 hwa
  subst this
  exact k2 hp
/-- one asks, and is refused -/
theorem gs_refuse (hI : gs_I na nb acc va vb has had ak) {a b a' : Nat} (ha : a < na) (hb : b < nb) (hab : acc a b) (hnone : has a = none) (hbest : ∀ b', b' < nb → acc a b' → ¬ ak a b' → ¬ gs_p va a b' b) (hr : had b = some a') (hn : ¬ gs_p vb b a a') :
    gs_I na nb acc va vb has had (fun x y => ak x y ∨ (x = a ∧ y = b)) := by
  obtain ⟨i1, i2, i3, i4, i5⟩ := id hI
  have hha' := (i2 a' b).mpr hr
  have hne : a ≠ a' := by intro h; subst h; rw [hnone] at hha'; cases hha'
  refine ⟨fun x y h => ?_, i2, fun x y h => ?_, fun x y y' h h1 h2 h3 => ?_, fun x y h h1 w hw => ?_⟩
  · obtain ⟨k1, k2, k3, k4⟩ := i1 x y h
    exact ⟨k1, k2, k3, Or.inl k4⟩
  · rcases h with h | ⟨rfl, rfl⟩
    · exact i3 x y h
    · exact ⟨ha, hb, hab, a', hr, hn⟩
  · rcases h with h | ⟨rfl, rfl⟩
    · exact Or.inl (i4 x y y' h h1 h2 h3)
    · by_cases hk : ak x y'
      · exact Or.inl hk
      · exact absurd h3 (hbest y' h1 h2 hk)
  · rcases h with h | ⟨rfl, rfl⟩
    · exact i5 x y h h1 w hw
    · obtain ⟨k1, k2, k3, k4⟩ := i1 a' y hha'
      refine gs_no hI k1 hb k3 (fun b' q1 q2 q3 => ⟨i4 a' y b' k4 q1 q2 q3, fun q => ?_⟩) ?_ w hw
      · rw [hha'] at q
        cases q
        exact gs_p_irr q3
      · rcases gs_p_tot hn with h | h
        · exact absurd h hne
        · exact h
/-- one asks, and is taken; who was there before (if any) is let go -/
theorem gs_take (hI : gs_I na nb acc va vb has had ak) {a b : Nat} (ha : a < na) (hb : b < nb) (hab : acc a b) (hnone : has a = none) (hbest : ∀ b', b' < nb → acc a b' → ¬ ak a b' → ¬ gs_p va a b' b) (hr : ∀ a', had b = some a' → gs_p vb b a a') :
    gs_I na nb acc va vb (fun x => if x = a then some b else if had b = some x then none else has x) (fun y => if y = b then some a else had y) (fun x y => ak x y ∨ (x = a ∧ y = b)) := by
  obtain ⟨i1, i2, i3, i4, i5⟩ := id hI
  have hb' : ∀ b', b' < nb → acc a b' → gs_p va a b' b → ak a b' ∧ has a ≠ some b' := fun b' q1 q2 q3 => by
    refine ⟨?_, by rw [hnone]; exact fun h => by cases h⟩
    by_cases hk : ak a b'
    · exact hk
    · exact absurd q3 (hbest b' q1 q2 hk)
  refine ⟨fun x y h => ?_, fun x y => ?_, fun x y h => ?_, fun x y y' h h1 h2 h3 => ?_, fun x y h h1 w hw => ?_⟩
  · by_cases hx : x = a
    · subst hx
      simp at h
      subst h
      exact ⟨ha, hb, hab, Or.inr ⟨rfl, rfl⟩⟩
    · by_cases hx2 : had b = some x
      · simp [hx, hx2] at h
      · simp [hx, hx2] at h
        obtain ⟨k1, k2, k3, k4⟩ := i1 x y h
        exact ⟨k1, k2, k3, Or.inl k4⟩
  · by_cases hx : x = a
    · subst hx
      by_cases hy : y = b
      · subst hy; simp
      · have : had y ≠ some x := fun q => by have := (i2 x y).mpr q; rw [hnone] at this; cases this
        simp [hy, this]
        exact fun q => hy q.symm
    · by_cases hx2 : had b = some x
      · by_cases hy : y = b
        · subst hy
          simp [hx, hx2]
          exact fun q => hx q.symm
        · have : had y ≠ some x := fun q => by
            have q1 := (i2 x y).mpr q
            have q2 := (i2 x b).mpr hx2
            rw [q1] at q2
            cases q2
            exact hy rfl
          simp [hx, hx2, hy, this]
      · by_cases hy : y = b
        · subst hy
          have : has x ≠ some y := fun q => hx2 ((i2 x y).mp q)
          simp [hx, hx2, this]
          exact fun q => hx q.symm
        · simp only [hx, hx2, hy, if_false]
          exact i2 x y
  · rcases h with h | ⟨rfl, rfl⟩
    · obtain ⟨k1, k2, k3, a', k4, k5⟩ := i3 x y h
      refine ⟨k1, k2, k3, ?_⟩
      by_cases hy : y = b
      · subst hy
        refine ⟨a, by simp, fun q => ?_⟩
        have := hr a' k4
        exact k5 (gs_p_tr q this)
      · exact ⟨a', by simp [hy, k4], k5⟩
    · exact ⟨ha, hb, hab, x, by simp, gs_p_irr⟩
  · rcases h with h | ⟨rfl, rfl⟩
    · exact Or.inl (i4 x y y' h h1 h2 h3)
    · exact Or.inl (hb' y' h1 h2 h3).1
  · rcases h with h | ⟨rfl, rfl⟩
    · by_cases hx : has x = some y
      · have hxa : x ≠ a := by intro q; subst q; rw [hnone] at hx; cases hx
        have hy : y = b := by
          by_cases hx2 : had b = some x
          · have q2 := (i2 x b).mpr hx2
            rw [hx] at q2
            cases q2
            rfl
          · simp [hxa, hx2, hx] at h1
        subst hy
        exact gs_no hI ha hb hab hb' (hr x ((i2 x y).mp hx)) w hw
      · exact i5 x y h hx w hw
    · simp at h1
/-- at the end it holds, and nobody who asks can have more in another way that holds -/
theorem gs_end (hI : gs_I na nb acc va vb has had ak) (hall : ∀ a, a < na → has a = none → ∀ b, b < nb → acc a b → ak a b) :
    gs_st na nb acc va vb has ∧ ∀ w, gs_st na nb acc va vb w → ∀ a b, w a = some b → ∃ b', has a = some b' ∧ ¬ gs_p va a b b' := by
  obtain ⟨i1, i2, i3, i4, i5⟩ := id hI
  refine ⟨⟨fun a b h => ?_, fun a a' b h h' => ?_, fun a b ha hb hab hp => ?_⟩, fun w hw a b hab => ?_⟩
  · obtain ⟨k1, k2, k3, k4⟩ := i1 a b h
    exact ⟨k1, k2, k3⟩
  · have q1 := (i2 a b).mp h
    have q2 := (i2 a' b).mp h'
    rw [q1] at q2
    cases q2
    rfl
  · have hk : ak a b := by
      cases hh : has a with
      | none => exact hall a ha hh b hb hab
      | some b' => exact i4 a b' b (i1 a b' hh).2.2.2 hb hab (hp b' hh)
    obtain ⟨k1, k2, k3, a', k4, k5⟩ := i3 a b hk
    exact ⟨a', (i2 a' b).mpr k4, k5⟩
  · obtain ⟨k1, k2, k3⟩ := hw.1 a b hab
    cases hh : has a with
    | none => exact absurd hab (i5 a b (hall a k1 hh b k2 k3) (by rw [hh]; exact fun q => by cases q) w hw)
    | some b' =>
      refine ⟨b', rfl, fun q => ?_⟩
      have hk := i4 a b' b (i1 a b' hh).2.2.2 k2 k3 q
      refine absurd hab (i5 a b hk (fun q2 => ?_) w hw)
      rw [hh] at q2
      cases q2
      exact gs_p_irr q
/-- what is best for those who ask is worst for those who are asked -/
theorem gs_dual {M : Nat → Option Nat} (hM : gs_st na nb acc va vb M) (hopt : ∀ w, gs_st na nb acc va vb w → ∀ a b, w a = some b → ∃ b', M a = some b' ∧ ¬ gs_p va a b b') {w : Nat → Option Nat} (hw : gs_st na nb acc va vb w) {a b : Nat} (h : M a = some b) : ∃ a', w a' = some b ∧ ¬ gs_p vb b a a' := by
  obtain ⟨k1, k2, k3⟩ := hM.1 a b h
  by_cases hwa : w a = some b
  · exact ⟨a, hwa, gs_p_irr⟩
  · refine hw.2.2 a b k1 k2 k3 (fun b' hb' => ?_)
    obtain ⟨b2, q1, q2⟩ := hopt w hw a b' hb'
    rw [h] at q1
    cases q1
    rcases gs_p_tot q2 with q | q
    · subst q; exact absurd hb' hwa
    · exact q
end GS
/-! counting: a list without a double inside another one isn't longer -/
theorem gs_len {α : Type} : ∀ (l m : List α), l.Nodup → (∀ x ∈ l, x ∈ m) → l.length ≤ m.length := by
  intro l
  induction l with
  | nil => intro m _ _; exact Nat.zero_le _
  | cons x l ih =>
    intro m hn hs
    obtain ⟨m1, m2, rfl⟩ := List.append_of_mem (hs x List.mem_cons_self)
    have h := ih (m1 ++ m2) (List.nodup_cons.mp hn).2 (fun y hy => by
      have h1 := hs y (List.mem_cons_of_mem _ hy)
      have h2 : y ≠ x := fun q => (List.nodup_cons.mp hn).1 (q ▸ hy)
      simp only [List.mem_append, List.mem_cons] at h1 ⊢
      rcases h1 with h1 | h1 | h1
      · exact Or.inl h1
      · exact absurd h1 h2
      · exact Or.inr h1)
    simp only [List.length_append, List.length_cons] at h ⊢
    omega
theorem gs_len_eq {α : Type} (l m : List α) (hl : l.Nodup) (hs : ∀ x ∈ l, x ∈ m) (hle : m.length ≤ l.length) : ∀ x ∈ m, x ∈ l := by
  intro x hx
  refine Classical.byContradiction fun hn => ?_
  have := gs_len (x :: l) m (List.nodup_cons.mpr ⟨hn, hl⟩) (fun y hy => by
    rcases List.mem_cons.mp hy with h | h
    · exact h ▸ hx
    · exact hs y h)
  simp only [List.length_cons] at this
  omega
/-- those who have one, and whom they have -/
def gs_A (na : Nat) (w : Nat → Option Nat) : List Nat := (List.range na).filter (fun a => (w a).isSome)
def gs_B (na : Nat) (w : Nat → Option Nat) : List Nat := (gs_A na w).map (fun a => (w a).getD 0)
theorem gs_memA {na : Nat} {w : Nat → Option Nat} {a : Nat} : a ∈ gs_A na w ↔ a < na ∧ ∃ b, w a = some b := by
  unfold gs_A
  rw [List.mem_filter, List.mem_range, Option.isSome_iff_exists]
theorem gs_nodA {na : Nat} {w : Nat → Option Nat} : (gs_A na w).Nodup := List.Nodup.sublist List.filter_sublist List.nodup_range
theorem gs_memB {na : Nat} {w : Nat → Option Nat} {b : Nat} : b ∈ gs_B na w ↔ ∃ a, a < na ∧ w a = some b := by
  unfold gs_B
  rw [List.mem_map]
  constructor
  · rintro ⟨a, ha, he⟩
    obtain ⟨h1, b', h2⟩ := gs_memA.mp ha
    rw [h2] at he
    exact ⟨a, h1, by rw [h2]; exact congrArg some he⟩
  · rintro ⟨a, ha, he⟩
    exact ⟨a, gs_memA.mpr ⟨ha, b, he⟩, by rw [he]; rfl⟩
theorem gs_nodup_map {α β : Type} {f : α → β} : ∀ {l : List α}, l.Nodup → (∀ x ∈ l, ∀ y ∈ l, f x = f y → x = y) → (l.map f).Nodup := by
  intro l
  induction l with
  | nil => intro _ _; exact List.nodup_nil
  | cons x l ih =>
    intro hn hf
    rw [List.map_cons, List.nodup_cons]
    refine ⟨fun h => ?_, ih (List.nodup_cons.mp hn).2 (fun a ha b hb => hf a (List.mem_cons_of_mem _ ha) b (List.mem_cons_of_mem _ hb))⟩
    obtain ⟨y, hy, he⟩ := List.mem_map.mp h
    have := hf y (List.mem_cons_of_mem _ hy) x List.mem_cons_self he
    exact (List.nodup_cons.mp hn).1 (this ▸ hy)
section GS2
variable {na nb : Nat} {acc : Nat → Nat → Prop} {va vb : Nat → Nat → Int}
theorem gs_nodB {w : Nat → Option Nat} (hw : gs_st na nb acc va vb w) : (gs_B na w).Nodup := by
  refine gs_nodup_map gs_nodA (fun x hx y hy h => ?_)
  obtain ⟨-, b, hb⟩ := gs_memA.mp hx
  obtain ⟨-, c, hc⟩ := gs_memA.mp hy
  rw [hb, hc] at h
  have : b = c := h
  subst this
  exact hw.2.1 x y b hb hc
/-- who has none in the way that is best for those who ask has none in any; who is asked likewise -/
theorem gs_rural {M w : Nat → Option Nat} (hM : gs_st na nb acc va vb M) (hopt : ∀ w, gs_st na nb acc va vb w → ∀ a b, w a = some b → ∃ b', M a = some b' ∧ ¬ gs_p va a b b') (hw : gs_st na nb acc va vb w) :
    (∀ a, M a = none ↔ w a = none) ∧ ∀ b, (∃ a, M a = some b) ↔ ∃ a, w a = some b := by
  have hA : ∀ a ∈ gs_A na w, a ∈ gs_A na M := fun a ha => by
    obtain ⟨h1, b, h2⟩ := gs_memA.mp ha
    obtain ⟨b', h3, -⟩ := hopt w hw a b h2
    exact gs_memA.mpr ⟨h1, b', h3⟩
  have hB : ∀ b ∈ gs_B na M, b ∈ gs_B na w := fun b hb => by
    obtain ⟨a, h1, h2⟩ := gs_memB.mp hb
    obtain ⟨a', h3, -⟩ := gs_dual hM hopt hw h2
    exact gs_memB.mpr ⟨a', (hw.1 a' b h3).1, h3⟩
  have l1 := gs_len _ _ gs_nodA hA
  have l2 := gs_len _ _ (gs_nodB hM) hB
  have e1 : (gs_B na M).length = (gs_A na M).length := List.length_map _
  have e2 : (gs_B na w).length = (gs_A na w).length := List.length_map _
  have hA2 := gs_len_eq _ _ gs_nodA hA (by omega)
  have hB2 := gs_len_eq _ _ (gs_nodB hM) hB (by omega)
  refine ⟨fun a => ⟨fun h => ?_, fun h => ?_⟩, fun b => ⟨fun ⟨a, h⟩ => ?_, fun ⟨a, h⟩ => ?_⟩⟩
  · cases hq : w a with
    | none => rfl
    | some b =>
      obtain ⟨b', h3, -⟩ := hopt w hw a b hq
      rw [h] at h3
      cases h3
  · cases hq : M a with
    | none => rfl
    | some b =>
      obtain ⟨-, b', h3⟩ := gs_memA.mp (hA2 a (gs_memA.mpr ⟨(hM.1 a b hq).1, b, hq⟩))
      rw [h] at h3
      cases h3
  · obtain ⟨a', -, h3⟩ := gs_memB.mp (hB b (gs_memB.mpr ⟨a, (hM.1 a b h).1, h⟩))
    exact ⟨a', h3⟩
  · obtain ⟨a', -, h3⟩ := gs_memB.mp (hB2 b (gs_memB.mpr ⟨a, (hw.1 a b h).1, h⟩))
    exact ⟨a', h3⟩
end GS2
