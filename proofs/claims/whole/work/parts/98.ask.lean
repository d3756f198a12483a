/-! ===== asking, in the memory: the best to ask; turns until none is let go ===== -/
theorem jm_5 {k : Nat} (hk : k ≤ 5) : jmin (nI k) 5 = nI k := by
  unfold jmin
  rw [if_neg]
  rw [l_lt (n := 5) (by omega) (by omega)]
  omega
theorem jm_6 {k : Nat} (hk : k ≤ 6) : jmin (nI k) 6 = nI k := by
  unfold jmin
  rw [if_neg]
  rw [l_lt (n := 6) (by omega) (by omega)]
  omega
theorem q_best {μ : PM} {th v3 : Int32} {a nb m : Nat} {acc : Nat → Bool} {va : Nat → Nat → Int} {ak : Nat → Bool} (ha : a < 6) (hnb : nb ≤ 6) (hth : th = 0 ∨ th = 1) (hv3 : v3 = nI nb)
    (hw : ∀ b, b < nb → (if th = 0 then fX4_isWanted μ (nI b) (nI a) else fX4_isWanted μ (nI a) (nI b)) = some (if acc b = true then 1 else 0))
    (hl : ∀ b o, b < nb → (∀ y, o = some y → y < nb) → fX4_likesMore μ th (nI a) (nI b) (enc o) = some (if gs_o va a b o = true then 1 else 0))
    (hm : μ.1 390 a = nI m) (hmb : m < 64) (hbit : ∀ b, b < nb → m.testBit b = ak b) :
    ∃ o, jjX4_bestToAsk_36 μ th (nI a) v3 = some (enc o) ∧ (∀ b0, o = some b0 → b0 < nb ∧ acc b0 = true ∧ ak b0 = false ∧ ∀ b, b < nb → acc b = true → ak b = false → ¬ gs_p va a b b0) ∧ (o = none → ∀ b, b < nb → acc b = true → ak b = true) := by
  subst hv3
  obtain ⟨r, h1, o, rfl, h2, h3⟩ := lp_inv (f := fun s : Int32 × Int32 => lbX4_bestToAsk_43 μ th (nI a) (nI nb) s.1 s.2) (fun s => ∃ (i : Nat) (o : Option Nat), i ≤ nb ∧ s.2 = nI i ∧ s.1 = enc o ∧ (∀ b0, o = some b0 → b0 < i ∧ acc b0 = true ∧ ak b0 = false ∧ ∀ b, b < i → acc b = true → ak b = false → ¬ gs_p va a b b0) ∧ (o = none → ∀ b, b < i → acc b = true → ak b = true)) (fun s => nb - s.2.toNatClampNeg)
    (fun r => ∃ o, r = enc o ∧ (∀ b0, o = some b0 → b0 < nb ∧ acc b0 = true ∧ ak b0 = false ∧ ∀ b, b < nb → acc b = true → ak b = false → ¬ gs_p va a b b0) ∧ (o = none → ∀ b, b < nb → acc b = true → ak b = true)) (fun s hI => by
    obtain ⟨s1, s2⟩ := s
    obtain ⟨i, o, hi, e, e', g1, g2⟩ := hI
    have e : s2 = nI i := e
    have e' : s1 = enc o := e'
    subst e e'
    dsimp only
    have hle : nI nb ≤ nI i ↔ nb ≤ i := le_n (by omega) (by omega)
    by_cases hlt : nb ≤ i
    · right
      have : i = nb := by omega
      subst this
      refine ⟨enc o, ?_, o, rfl, g1, g2⟩
      unfold lbX4_bestToAsk_43
      rw [if_pos (hle.mpr hlt)]
    · left
      have dec : nb - (nI (i + 1)).toNatClampNeg < nb - (nI i).toNatClampNeg := by rw [cl_n (by omega), cl_n (by omega)]; omega
      have body : lbX4_bestToAsk_43 μ th (nI a) (nI nb) (enc o) (nI i) = if acc i = true then (if ak i = true then some (.inl (enc o, nI (i + 1))) else if gs_o va a i o = true then some (.inl (nI i, nI (i + 1))) else some (.inl (enc o, nI (i + 1)))) else some (.inl (enc o, nI (i + 1))) := by
        have ew := hw i (by omega)
        have fin : jjX4_bestToAsk_70_43 μ th (nI a) (nI nb) (enc o) (nI i) (if acc i = true then 1 else 0) = if acc i = true then (if ak i = true then some (.inl (enc o, nI (i + 1))) else if gs_o va a i o = true then some (.inl (nI i, nI (i + 1))) else some (.inl (enc o, nI (i + 1)))) else some (.inl (enc o, nI (i + 1))) := by
          unfold jjX4_bestToAsk_70_43
          rw [nb_01, chk_n ha (by omega), cl_n (by omega), hm, bitE, nb_has (by omega) (by omega), hbit i (by omega), nb_01, hl i o (by omega) (fun y hy => by have := (g1 y hy).1; omega), Option.bind_some, nb_01, add_l 1]
        unfold lbX4_bestToAsk_43
        rw [if_neg (fun q => hlt (hle.mp q))]
        rcases hth with rfl | rfl
        · rw [if_pos rfl] at ew ⊢
          rw [ew, Option.bind_some]
          exact fin
        · rw [if_neg (by decide)] at ew ⊢
          rw [ew, Option.bind_some]
          exact fin
      rw [body]
      have stay : (∀ b0, o = some b0 → acc i = true → ak i = false → ¬ gs_p va a i b0) → (o = none → acc i = true → ak i = true) → ∃ s', (some (Sum.inl (enc o, nI (i + 1))) : Option ((Int32 × Int32) ⊕ Int32)) = some (.inl s') ∧ (∃ (i : Nat) (o : Option Nat), i ≤ nb ∧ s'.2 = nI i ∧ s'.1 = enc o ∧ (∀ b0, o = some b0 → b0 < i ∧ acc b0 = true ∧ ak b0 = false ∧ ∀ b, b < i → acc b = true → ak b = false → ¬ gs_p va a b b0) ∧ (o = none → ∀ b, b < i → acc b = true → ak b = true)) ∧ nb - s'.2.toNatClampNeg < nb - (nI i).toNatClampNeg := fun q1 q2 => by
        refine ⟨_, rfl, ⟨i + 1, o, by omega, rfl, rfl, fun b0 hb => ?_, fun hn b hb hacc => ?_⟩, dec⟩
        · obtain ⟨p1, p2, p3, p4⟩ := g1 b0 hb
          refine ⟨by omega, p2, p3, fun b hb2 hacc hak => ?_⟩
          by_cases e : b = i
          · subst e; exact q1 b0 hb hacc hak
          · exact p4 b (by omega) hacc hak
        · by_cases e : b = i
          · subst e; exact q2 hn hacc
          · exact g2 hn b (by omega) hacc
      by_cases ca : acc i = true
      case neg =>
        rw [if_neg ca]
        exact stay (fun _ _ q => absurd q ca) (fun _ q => absurd q ca)
      rw [if_pos ca]
      by_cases ck : ak i = true
      · rw [if_pos ck]
        exact stay (fun _ _ _ q => by rw [ck] at q; cases q) (fun _ _ => ck)
      rw [if_neg ck]
      have ck' : ak i = false := by simpa using ck
      by_cases cg : gs_o va a i o = true
      · rw [if_pos cg]
        refine ⟨_, rfl, ⟨i + 1, some i, by omega, rfl, rfl, fun b0 hb => ?_, fun q => by cases q⟩, dec⟩
        cases hb
        refine ⟨by omega, ca, ck', fun b hb2 hacc hak hp => ?_⟩
        by_cases e : b = i
        · subst e; exact gs_p_irr hp
        · cases o with
          | none => rw [g2 rfl b (by omega) hacc] at hak; cases hak
          | some b1 =>
            have q1 : gs_p va a i b1 := gs_b_iff.mp cg
            exact (g1 b1 rfl).2.2.2 b (by omega) hacc hak (gs_p_tr hp q1)
      · rw [if_neg cg]
        cases o with
        | none => exact absurd rfl cg
        | some b1 => exact stay (fun b0 hb _ _ hp => by cases hb; exact cg (gs_b_iff.mpr hp)) (fun q => by cases q)) go_fuel (-1, 0) ⟨0, none, by omega, rfl, rfl, fun b0 hb => (by cases hb), fun _ b hb => by omega⟩ (by show nb - _ < go_fuel; unfold go_fuel; omega)
  refine ⟨o, ?_, h2, h3⟩
  unfold jjX4_bestToAsk_36
  rw [h1]
  rfl
/-! how many have been asked -/
def ak_n (na nb : Nat) (ak : Nat → Nat → Bool) : Nat := ct_out (fun a => ct_in (ak a) nb) na
def ak_up (ak : Nat → Nat → Bool) (a b : Nat) : Nat → Nat → Bool := fun x y => ak x y || (decide (x = a) && decide (y = b))
theorem ct_in_up {p : Nat → Bool} {b : Nat} (hb : p b = false) : ∀ n, b < n → ct_in (fun y => p y || decide (y = b)) n = ct_in p n + 1 := by
  have lo : ∀ n, n ≤ b → ct_in (fun y => p y || decide (y = b)) n = ct_in p n := fun n hn => ct_in_eq (fun i hi => by
    have : decide (i = b) = false := decide_eq_false (by omega)
    rw [this, Bool.or_false])
  intro n
  induction n with
  | zero => intro h; omega
  | succ n ih =>
    intro h
    by_cases e : b = n
    · subst e
      unfold ct_in
      rw [lo b (Nat.le_refl _), hb]
      simp
    · unfold ct_in
      rw [ih (by omega)]
      have : decide (n = b) = false := decide_eq_false (by omega)
      rw [this, Bool.or_false]
      omega
theorem ak_n_up {na nb : Nat} {ak : Nat → Nat → Bool} {a b : Nat} (hb : b < nb) (hak : ak a b = false) : ∀ n, n ≤ na → a < n → ak_n n nb (ak_up ak a b) = ak_n n nb ak + 1 := by
  have lo : ∀ n, n ≤ a → ak_n n nb (ak_up ak a b) = ak_n n nb ak := fun n hn => ct_out_eq (fun i hi => ct_in_eq (fun j hj => by
    unfold ak_up
    have : decide (i = a) = false := decide_eq_false (by omega)
    rw [this, Bool.false_and, Bool.or_false]))
  intro n
  induction n with
  | zero => intro _ h; omega
  | succ n ih =>
    intro h1 h
    show ak_n n nb (ak_up ak a b) + ct_in (ak_up ak a b n) nb = ak_n n nb ak + ct_in (ak n) nb + 1
    by_cases e : a = n
    · subst e
      rw [lo a (Nat.le_refl _)]
      have : ct_in (ak_up ak a b a) nb = ct_in (fun y => ak a y || decide (y = b)) nb := ct_in_eq (fun j hj => by unfold ak_up; simp)
      rw [this, ct_in_up hak nb hb]
      omega
    · rw [ih (by omega) (by omega)]
      have : ct_in (ak_up ak a b n) nb = ct_in (ak n) nb := ct_in_eq (fun j hj => by
        unfold ak_up
        have : decide (n = a) = false := decide_eq_false (by omega)
        rw [this, Bool.false_and, Bool.or_false])
      rw [this]
      omega
theorem ak_n_le (na nb : Nat) (ak : Nat → Nat → Bool) : ak_n na nb ak ≤ nb * na := ct_out_le (fun a => ct_in_le (ak a) nb) na
def gs_has (has had : Nat → Option Nat) (a b : Nat) : Nat → Option Nat := fun x => if x = a then some b else if had b = some x then none else has x
def gs_had (had : Nat → Option Nat) (a b : Nat) : Nat → Option Nat := fun y => if y = b then some a else had y
def ak_p (ak : Nat → Nat → Bool) : Nat → Nat → Prop := fun x y => ak x y = true
theorem ak_p_up (ak : Nat → Nat → Bool) (a b : Nat) : ak_p (ak_up ak a b) = fun x y => ak_p ak x y ∨ (x = a ∧ y = b) := by
  funext x y
  unfold ak_p ak_up
  simp only [Bool.or_eq_true, Bool.and_eq_true, decide_eq_true_eq]
section TURN
variable {ρ : Type} {na nb : Nat} {acc : Nat → Nat → Prop} {va vb : Nat → Nat → Int} {bd : Int32 × Int32 × PM → Option ((Int32 × Int32 × PM) ⊕ (PM ⊕ ρ))} {Rel : PM → (Nat → Option Nat) → (Nat → Option Nat) → (Nat → Nat → Bool) → Prop}
/-- what one turn does -/
def gs_step (na nb : Nat) (acc : Nat → Nat → Prop) (va vb : Nat → Nat → Int) (bd : Int32 × Int32 × PM → Option ((Int32 × Int32 × PM) ⊕ (PM ⊕ ρ))) (Rel : PM → (Nat → Option Nat) → (Nat → Option Nat) → (Nat → Nat → Bool) → Prop) : Prop :=
  ∀ μ has had ak a T, Rel μ has had ak → gs_I na nb acc va vb has had (ak_p ak) → a < na → has a = none → T ≤ 30 →
    (bd (nI a, nI T, μ) = some (.inr (.inl μ)) ∧ ∀ b, b < nb → acc a b → ak a b = true) ∨
    ∃ b, b < nb ∧ acc a b ∧ ak a b = false ∧ (∀ b', b' < nb → acc a b' → ¬ ak_p ak a b' → ¬ gs_p va a b' b) ∧
      ((∃ a' μ', had b = some a' ∧ ¬ gs_p vb b a a' ∧ bd (nI a, nI T, μ) = some (.inl (nI a, nI (T + 1), μ')) ∧ Rel μ' has had (ak_up ak a b)) ∨
       ((∀ a', had b = some a' → gs_p vb b a a') ∧ ∃ μ', bd (nI a, nI T, μ) = some (.inl (enc (had b), nI (T + 1), μ')) ∧ Rel μ' (gs_has has had a b) (gs_had had a b) (ak_up ak a b)))
/-- those up to i who have none have asked all they could -/
def gs_ex (nb : Nat) (acc : Nat → Nat → Prop) (i : Nat) (cur : Option Nat) (has : Nat → Option Nat) (ak : Nat → Nat → Bool) : Prop := (∀ x, x < i → cur ≠ some x → has x = none → ∀ b, b < nb → acc x b → ak x b = true) ∧ ∀ x b, i ≤ x → ak x b = false
theorem gs_turns (hs : gs_step na nb acc va vb bd Rel) (hn : ∀ T μ, bd (-1, nI T, μ) = some (.inr (.inl μ))) (h30 : nb * na ≤ 30) : ∀ k μ has had ak cur T i fuel, ak_n na nb ak + k = 31 → T ≤ ak_n na nb ak → i ≤ na → Rel μ has had ak → gs_I na nb acc va vb has had (ak_p ak) → (∀ a, cur = some a → a < i ∧ has a = none) → gs_ex nb acc i cur has ak → k < fuel →
    ∃ μ' has' had' ak', lp bd fuel (enc cur, nI T, μ) = some (.inl μ') ∧ Rel μ' has' had' ak' ∧ gs_I na nb acc va vb has' had' (ak_p ak') ∧ gs_ex nb acc i none has' ak' := by
  intro k
  induction k with
  | zero =>
    intro μ has had ak cur T i fuel hk hT hi hR hI hc he hf
    have := ak_n_le na nb ak
    omega
  | succ k ih =>
    intro μ has had ak cur T i fuel hk hT hi hR hI hc he hf
    obtain ⟨f, rfl⟩ : ∃ f, fuel = f + 1 := ⟨fuel - 1, by omega⟩
    have hle := ak_n_le na nb ak
    cases cur with
    | none => exact ⟨μ, has, had, ak, lp_e (hn T μ), hR, hI, he⟩
    | some a =>
      obtain ⟨ha, hnone⟩ := hc a rfl
      rcases hs μ has had ak a T hR hI (by omega) hnone (by omega) with ⟨g1, g2⟩ | ⟨b, hb, hab, hak, hbest, hrest⟩
      · refine ⟨μ, has, had, ak, lp_e g1, hR, hI, fun x hx _ hxn b hb hacc => ?_, he.2⟩
        by_cases e : x = a
        · subst e; exact g2 b hb hacc
        · exact he.1 x hx (fun q => e (Option.some.inj q).symm) hxn b hb hacc
      · have hcount := ak_n_up (na := na) hb hak na (Nat.le_refl _) (show a < na by omega)
        have hmono : ∀ x y, ak x y = true → ak_up ak a b x y = true := fun x y q => by unfold ak_up; rw [q]; rfl
        have hlate : ∀ x y, i ≤ x → ak_up ak a b x y = false := fun x y q => by
          unfold ak_up
          have : decide (x = a) = false := decide_eq_false (by omega)
          rw [he.2 x y q, this]
          rfl
        rcases hrest with ⟨a', μ', r1, r2, r3, r4⟩ | ⟨r1, μ', r2, r3⟩
        · have hI' := gs_refuse hI (show a < na by omega) hb hab hnone hbest r1 r2
          rw [← ak_p_up] at hI'
          obtain ⟨μ2, has2, had2, ak2, q1, q2, q3, q4⟩ := ih μ' has had (ak_up ak a b) (some a) (T + 1) i f (by omega) (by omega) hi r4 hI' hc ⟨fun x hx hxc hxn y hy hacc => hmono x y (he.1 x hx hxc hxn y hy hacc), hlate⟩ (by omega)
          exact ⟨μ2, has2, had2, ak2, (lp_l r3).trans q1, q2, q3, q4⟩
        · have hI' := gs_take hI (show a < na by omega) hb hab hnone hbest r1
          rw [← ak_p_up] at hI'
          have hI' : gs_I na nb acc va vb (gs_has has had a b) (gs_had had a b) (ak_p (ak_up ak a b)) := hI'
          obtain ⟨μ2, has2, had2, ak2, q1, q2, q3, q4⟩ := ih μ' (gs_has has had a b) (gs_had had a b) (ak_up ak a b) (had b) (T + 1) i f (by omega) (by omega) hi r3 hI' (fun x hx => by
            have hxb := (hI.2.1 x b).mpr hx
            have hxa : x ≠ a := fun q => by rw [q, hnone] at hxb; cases hxb
            have hxi : x < i := by
              refine Classical.byContradiction fun q => ?_
              have := (hI.1 x b hxb).2.2.2
              unfold ak_p at this
              rw [he.2 x b (by omega)] at this
              cases this
            refine ⟨hxi, ?_⟩
            unfold gs_has
            rw [if_neg hxa, if_pos hx]) ⟨fun x hx hxc hxn y hy hacc => by
            unfold gs_has at hxn
            by_cases e : x = a
            · rw [if_pos e] at hxn; cases hxn
            · rw [if_neg e, if_neg hxc] at hxn
              exact hmono x y (he.1 x hx (fun q => e (Option.some.inj q).symm) hxn y hy hacc), hlate⟩ (by omega)
          exact ⟨μ2, has2, had2, ak2, (lp_l r2).trans q1, q2, q3, q4⟩
/-- all of them, one behind the other -/
theorem gs_rounds {ob : Int32 × PM → Option ((Int32 × PM) ⊕ PM)} (hs : gs_step na nb acc va vb bd Rel) (hn : ∀ T μ, bd (-1, nI T, μ) = some (.inr (.inl μ))) (h30 : nb * na ≤ 30) (hna : na ≤ 6)
    (ho : ∀ i μ μ', i < na → lp bd go_fuel (nI i, 0, μ) = some (.inl μ') → ob (nI i, μ) = some (.inl (nI (i + 1), μ'))) (he : ∀ μ, (∃ has had ak, Rel μ has had ak) → ob (nI na, μ) = some (.inr μ)) :
    ∀ k i μ has had ak fuel, i + k = na → Rel μ has had ak → gs_I na nb acc va vb has had (ak_p ak) → gs_ex nb acc i none has ak → k < fuel → ∃ μ' has' had' ak', lp ob fuel (nI i, μ) = some μ' ∧ Rel μ' has' had' ak' ∧ gs_I na nb acc va vb has' had' (ak_p ak') ∧ gs_ex nb acc na none has' ak' := by
  intro k
  induction k with
  | zero =>
    intro i μ has had ak fuel hi hR hI hx hf
    obtain ⟨f, rfl⟩ : ∃ f, fuel = f + 1 := ⟨fuel - 1, by omega⟩
    have e : i = na := by omega
    subst e
    exact ⟨μ, has, had, ak, lp_e (he μ ⟨has, had, ak, hR⟩), hR, hI, hx⟩
  | succ k ih =>
    intro i μ has had ak fuel hi hR hI hx hf
    obtain ⟨f, rfl⟩ : ∃ f, fuel = f + 1 := ⟨fuel - 1, by omega⟩
    have hle := ak_n_le na nb ak
    have hnone : has i = none := by
      cases hq : has i with
      | none => rfl
      | some b =>
        have := (hI.1 i b hq).2.2.2
        unfold ak_p at this
        rw [hx.2 i b (Nat.le_refl _)] at this
        cases this
    obtain ⟨μ', has', had', ak', q1, q2, q3, q4⟩ := gs_turns hs hn h30 (31 - ak_n na nb ak) μ has had ak (some i) 0 (i + 1) go_fuel (by omega) (by omega) (by omega) hR hI (fun a ha => by cases ha; exact ⟨by omega, hnone⟩) ⟨fun x hx1 hxc hxn b hb hacc => by
      have : x ≠ i := fun q => hxc (by rw [q])
      exact hx.1 x (by omega) (fun q => by cases q) hxn b hb hacc, fun x b hxi => hx.2 x b (by omega)⟩ (by unfold go_fuel; omega)
    obtain ⟨μ2, has2, had2, ak2, w1, w2, w3, w4⟩ := ih (i + 1) μ' has' had' ak' f (by omega) q2 q3 q4 (by omega)
    exact ⟨μ2, has2, had2, ak2, by rw [lp_l (ho i μ μ' (by omega) q1)]; exact w1, w2, w3, w4⟩
end TURN
