section AZ3
variable {t v : Nat → Nat} {lk : Nat}
theorem az_nowX {pd q : List Nat} {x : Nat} (h : ∀ y ∈ pd, 1 ≤ az_rank y) (hx : 40 ≤ x) : az_now (pd ++ x :: q) = some x := by
  rw [az_now_p h]
  unfold az_now
  rw [List.find?_cons_of_pos (by exact decide_eq_true hx)]
theorem az_rank40 {x : Nat} (hx : 40 ≤ x) : az_rank x = 0 := by unfold az_rank; rw [if_pos hx]
theorem az_setX {pd q : List Nat} {x d : Nat} {out : pz_C} (h : ∀ y ∈ pd, 1 ≤ az_rank y ∧ az_rank y ≤ 6) (hx : 40 ≤ x) : az_settle 1 (pd ++ x :: q) (d + az_n pd) out = (x :: q, d, out ++ az_o pd) :=
  az_settle_p (fun y hy => ⟨(h y hy).1, by have := (h y hy).2; omega⟩) (fun y hy => by cases hy; rw [az_rank40 hx]; decide)
/-- nothing can stand between two here -/
theorem az_betN {x : Nat} {q : List Nat} (hS : pz_gS x = none) (hP : pz_gP x = none) (h : az_now q ≠ some 42 ∨ (az_cmpd q = true ∧ pz_gB x = none ∧ pz_gE x = none)) : az_between x q = none := by
  have a1 : x ≠ 44 := fun hh => by subst hh; cases hS
  have a2 : x ≠ 45 := fun hh => by subst hh; cases hS
  have a3 : x ≠ 46 := fun hh => by subst hh; cases hP
  have a4 : x ≠ 47 := fun hh => by subst hh; cases hP
  unfold az_between
  rw [if_neg a1, if_neg a2, if_neg a3, if_neg a4]
  rcases h with h | ⟨h1, h2, h3⟩
  · rw [if_pos h]
  · have a5 : x ≠ 27 := fun hh => by subst hh; cases h2
    have a6 : x ≠ 26 := fun hh => by subst hh; cases h3
    by_cases hn : az_now q ≠ some 42
    · rw [if_pos hn]
    · rw [if_neg hn, if_neg (by simp [h1]), if_neg a5, if_neg a6]
/-- a state behind a whole one with something open around it -/
theorem az_GX {j d B : Nat} {pd q : List Nat} {x : Nat} {out out' : pz_C} {m : pz_C} {i : Nat} (h4 : out' ++ az_o pd = out ++ m) (hq : q.length + 1 + B ≤ 10 * d + 6) (hd : d ≤ 8) (hB : B ≤ 5) (h5 : pd.length + d ≤ B + 8) (ho : out.length + (q.length + 1) ≤ i) (hm : m.length + i ≤ j) : az_G (j, pd ++ x :: q, d + az_n pd, true, out') := by
  have h4' : out'.length + pd.length = out.length + m.length := by
    have := congrArg List.length h4
    simp [az_o] at this
    omega
  refine ⟨?_, ?_⟩
  · show (pd ++ x :: q).length ≤ 120
    simp only [List.length_append, List.length_cons]; omega
  · show out'.length + (pd ++ x :: q).length ≤ j
    simp only [List.length_append, List.length_cons]; omega
theorem az_choice {n : Nat} (h0 : az_W t v lk n 0 4 5 2 false) (h4 : az_W t v lk n 4 0 1 5 true) : az_3 t v lk (n + 1) := by
  intro d i p q out r hr hd hq ho
  change pz_choice t (pz_P t v lk n) (d + 1) i p = some r at hr
  unfold pz_choice at hr
  have W4 := fun r' (hr' : pz_P t v lk n 4 (d + 1) i p = some r') => h4 (d + 1) i p (42 :: q) out r' hr' hd (az_lo_c (by decide) (by decide)) (fun _ => rfl) (fun q => (by cases q)) (by simp only [List.length_cons]; omega) (by simp only [List.length_cons]; omega)
  rcases pz_bind_e hr with ⟨e, h1, rfl⟩ | ⟨j1, c1, m1, h1, hr⟩
  · exact W4 _ h1
  obtain ⟨pd, out1, k2, k3, k4, k5, k6⟩ := W4 _ h1
  have k2 : az_to t v lk (i, 42 :: q, d + 1, false, out) (j1, pd ++ 42 :: q, d + 1 + az_n pd, true, out1) := k2
  have hlen := pz_len _ _ _ _ _ _ _ _ h1
  have hstop := pz_stop _ _ _ _ _ _ _ _ h1
  have hG1 := az_GX (x := 42) k4 hq hd (by omega) k5 ho hlen.2.1
  have hpd1 : ∀ y ∈ pd, 1 ≤ az_rank y := fun y hy => (k3 y hy).1
  have hnw := az_nowX (q := q) hpd1 (show 40 ≤ 42 by decide)
  have hbn := az_betN (hstop.2.1 (by omega)) (hstop.1 (by omega)) (Or.inr ⟨k6 rfl, hstop.2.2.1 (by omega), hstop.2.2.2.1 rfl⟩)
  unfold pz_want at hr
  split at hr
  case isFalse hw =>
    cases hr
    refine az_fl k2 (az_f1 hG1 ?_)
    show az_behind t j1 (pd ++ 42 :: q) (d + 1 + az_n pd) out1 = _
    have hp : az_part (t j1) (pd ++ 42 :: q) = none := by
      unfold az_part
      rw [hnw]
      simp [hw]
    unfold az_behind
    rw [hbn]
    simp [hp, hnw]
  rename_i hw
  have hst : az_step t v lk (j1, pd ++ 42 :: q, d + 1 + az_n pd, true, out1) = .inl (j1 + 1, 43 :: q, d + 1, false, out ++ m1) := by
    show az_behind t j1 (pd ++ 42 :: q) (d + 1 + az_n pd) out1 = _
    have hp : az_part (t j1) (pd ++ 42 :: q) = some 43 := by
      unfold az_part
      rw [hnw]
      simp [hw, k6 rfl]
    unfold az_behind
    rw [hbn]
    simp only [hp]
    rw [az_setX k3 (by decide), k4]
    rfl
  have hto := az_tr k2 (az_one hG1 hst)
  have W0 := fun r' (hr' : pz_P t v lk n 0 (d + 1) (j1 + 1) (p + c1.length + 1) = some r') => h0 (d + 1) (j1 + 1) _ (43 :: q) (out ++ m1) r' hr' hd (az_lo_c (by decide) (by decide)) (fun q => (by cases q)) (fun _ _ => rfl) (by simp only [List.length_cons]; omega) (by simp only [List.length_append, List.length_cons]; omega)
  rcases pz_bind_e hr with ⟨e, h2, rfl⟩ | ⟨j2, c2, m2, h2, hr⟩
  · exact az_fl hto (W0 _ h2)
  obtain ⟨pd2, out2, e2, e3, e4, e5, e6⟩ := W0 _ h2
  have e2 : az_to t v lk _ (j2, pd2 ++ 43 :: q, d + 1 + az_n pd2, true, out2) := e2
  have hlen2 := pz_len _ _ _ _ _ _ _ _ h2
  have hstop2 := pz_stop _ _ _ _ _ _ _ _ h2
  have e3' : ∀ y ∈ pd2, 1 ≤ az_rank y ∧ az_rank y ≤ 6 := fun y hy => ⟨by have := (e3 y hy).1; omega, (e3 y hy).2⟩
  have hG2 := az_GX (q := q) (x := 43) (i := j1 + 1) e4 (B := 2) (by omega) hd (by omega) e5 (by simp only [List.length_append]; omega) hlen2.2.1
  have hnw2 := az_nowX (q := q) (fun y hy => (e3' y hy).1) (show 40 ≤ 43 by decide)
  have hbn2 : az_between (t j2) (pd2 ++ 43 :: q) = none := az_betN (hstop2.2.1 (by omega)) (hstop2.1 (by omega)) (Or.inl (by rw [hnw2]; decide))
  split at hr
  case isFalse hw2 =>
    cases hr
    refine az_fl (az_tr hto e2) (az_f1 hG2 ?_)
    show az_behind t j2 (pd2 ++ 43 :: q) (d + 1 + az_n pd2) out2 = _
    have hp : az_part (t j2) (pd2 ++ 43 :: q) = none := by
      unfold az_part
      rw [hnw2]
      simp [hw2]
    unfold az_behind
    rw [hbn2]
    simp [hp, hnw2]
  rename_i hw2
  have hst2 : az_step t v lk (j2, pd2 ++ 43 :: q, d + 1 + az_n pd2, true, out2) = .inl (j2 + 1, 44 :: q, d + 1, false, out ++ m1 ++ m2) := by
    show az_behind t j2 (pd2 ++ 43 :: q) (d + 1 + az_n pd2) out2 = _
    have hp : az_part (t j2) (pd2 ++ 43 :: q) = some 44 := by
      unfold az_part
      rw [hnw2]
      simp [hw2]
    unfold az_behind
    rw [hbn2]
    simp only [hp]
    rw [az_setX e3' (by decide), e4]
    rfl
  have hto2 := az_tr (az_tr hto e2) (az_one hG2 hst2)
  have W1 := fun r' (hr' : pz_P t v lk n 0 (d + 1) (j2 + 1) (p + c1.length + 1 + c2.length + 1) = some r') => h0 (d + 1) (j2 + 1) _ (44 :: q) (out ++ m1 ++ m2) r' hr' hd (az_lo_c (by decide) (by decide)) (fun q => (by cases q)) (fun _ _ => rfl) (by simp only [List.length_cons]; omega) (by simp only [List.length_append, List.length_cons]; omega)
  rcases pz_bind_e hr with ⟨e, h3, rfl⟩ | ⟨j3, c3, m3, h3, hr⟩
  · exact az_fl hto2 (W1 _ h3)
  obtain ⟨pd3, out3, f2, f3, f4, f5, f6⟩ := W1 _ h3
  have f2 : az_to t v lk _ (j3, pd3 ++ 44 :: q, d + 1 + az_n pd3, true, out3) := f2
  have hlen3 := pz_len _ _ _ _ _ _ _ _ h3
  have hstop3 := pz_stop _ _ _ _ _ _ _ _ h3
  have f3' : ∀ y ∈ pd3, 1 ≤ az_rank y ∧ az_rank y ≤ 6 := fun y hy => ⟨by have := (f3 y hy).1; omega, (f3 y hy).2⟩
  have hG3 := az_GX (q := q) (x := 44) (i := j2 + 1) f4 (B := 2) (by omega) hd (by omega) f5 (by simp only [List.length_append]; omega) hlen3.2.1
  have hnw3 := az_nowX (q := q) (fun y hy => (f3' y hy).1) (show 40 ≤ 44 by decide)
  have hbn3 : az_between (t j3) (pd3 ++ 44 :: q) = none := az_betN (hstop3.2.1 (by omega)) (hstop3.1 (by omega)) (Or.inl (by rw [hnw3]; decide))
  split at hr
  case isFalse hw3 =>
    cases hr
    refine az_fl (az_tr hto2 f2) (az_f1 hG3 ?_)
    show az_behind t j3 (pd3 ++ 44 :: q) (d + 1 + az_n pd3) out3 = _
    have hp : az_part (t j3) (pd3 ++ 44 :: q) = none := by
      unfold az_part
      rw [hnw3]
      simp [hw3]
    unfold az_behind
    rw [hbn3]
    simp [hp, hnw3]
  rename_i hw3
  cases hr
  refine az_goes_t (az_tr hto2 f2) (az_goes_1 hG3 ?_)
  show az_behind t j3 (pd3 ++ 44 :: q) (d + 1 + az_n pd3) out3 = _
  have hp : az_part (t j3) (pd3 ++ 44 :: q) = some 0 := by
    unfold az_part
    rw [hnw3]
    simp [hw3]
  unfold az_behind
  rw [hbn3]
  simp only [hp]
  rw [az_setX f3' (by decide), f4, hnw3]
  simp
theorem az_One {n : Nat} (h0 : az_W t v lk n 0 4 5 2 false) (h2 : az_2 t v lk n) (h3 : az_3 t v lk n) : az_2 t v lk (n + 1) := by
  intro d i p q out r hr hd hN hq ho
  change pz_one t v lk (pz_P t v lk n) d i p = some r at hr
  have hG : az_G (i, q, d, false, out) := ⟨by show q.length ≤ 120; omega, ho⟩
  have hbeg : az_step t v lk (i, q, d, false, out) = az_begin t v lk i q d out := rfl
  unfold az_begin at hbeg
  unfold pz_one at hr
  by_cases c1 : 10 ≤ t i ∧ t i ≤ 18
  · rw [if_pos c1] at hr
    rw [if_neg (by omega)] at hbeg
    by_cases c2 : lk < t i
    · rw [if_pos c2] at hr
      rw [if_pos ⟨c1, c2⟩] at hbeg
      cases hr
      exact az_f1 hG hbeg
    · rw [if_neg c2] at hr
      rw [if_neg (fun hh => c2 hh.2), if_neg (by omega), if_pos c1] at hbeg
      cases hr
      exact az_goes_1 hG hbeg
  rw [if_neg c1] at hr
  by_cases c2 : t i = 32
  · rw [if_pos c2] at hr
    by_cases c3 : 9999 < v i
    · rw [if_pos c3] at hr
      rw [if_pos ⟨c2, c3⟩] at hbeg
      cases hr
      exact az_f1 hG hbeg
    · rw [if_neg c3] at hr
      rw [if_neg (fun hh => c3 hh.2), if_neg (fun hh => c1 hh.1), if_pos c2] at hbeg
      cases hr
      exact az_goes_1 hG hbeg
  rw [if_neg c2] at hr
  rw [if_neg (fun hh => c2 hh.1), if_neg (fun hh => c1 hh.1), if_neg c2, if_neg c1] at hbeg
  have hop : ∀ x, az_step t v lk (i, q, d, false, out) = az_opened i q d out x → (8 ≤ d → az_fail t v lk (i, q, d, false, out) (3, i)) ∧ (¬ 8 ≤ d → az_to t v lk (i, q, d, false, out) (i + 1, x :: q, d + 1, false, out)) := fun x hx => by
    unfold az_opened at hx
    refine ⟨fun h8 => ?_, fun h8 => ?_⟩
    · rw [if_pos (by omega)] at hx
      exact az_f1 hG hx
    · rw [if_neg (by omega)] at hx
      exact az_one hG hx
  have un : ∀ x y, az_rank x = 7 → az_step t v lk (i, q, d, false, out) = az_opened i q d out x → pz_open d i (pz_bind (pz_P t v lk n 2 (d + 1) (i + 1) p) fun j c m => some (.inr (j, c ++ [(y, 0)], m ++ [(x, 0)]))) = some r → (∀ z, az_ask (x :: z) = false) → az_end2 t v lk (i, q, d, false, out) q d out r := by
    intro x y hx hs hr hna
    unfold pz_open at hr
    split at hr
    · rename_i h8
      cases hr
      exact (hop x hs).1 h8
    · rename_i h8
      have hto := (hop x hs).2 h8
      have W := fun r' (hr' : pz_P t v lk n 2 (d + 1) (i + 1) p = some r') => h2 (d + 1) (i + 1) p (x :: q) out r' hr' (by omega) (fun _ => hna q) (by simp only [List.length_cons]; omega) (by simp only [List.length_cons]; omega)
      rcases pz_bind_e hr with ⟨e, h1, rfl⟩ | ⟨j1, c1, m1, h1, hr⟩
      · exact az_fl hto (W _ h1)
      · cases hr
        have := W _ h1
        have : az_goes t v lk (i + 1, x :: q, d + 1, false, out) (az_endOne t j1 (x :: q) (d + 1) (out ++ m1)) := this
        rw [az_end_u hx, List.append_assoc] at this
        exact az_goes_t hto this
  by_cases c3 : t i = 48
  · rw [if_pos c3] at hr hbeg
    unfold pz_open at hr
    split at hr
    · rename_i h8
      cases hr
      exact (hop 40 hbeg).1 h8
    rename_i h8
    have hto := (hop 40 hbeg).2 h8
    have W := fun r' (hr' : pz_P t v lk n 0 (d + 1) (i + 1) p = some r') => h0 (d + 1) (i + 1) p (40 :: q) out r' hr' (by omega) (az_lo_c (by decide) (by decide)) (fun q => (by cases q)) (fun _ _ => rfl) (by simp only [List.length_cons]; omega) (by simp only [List.length_cons]; omega)
    rcases pz_bind_e hr with ⟨e, h1, rfl⟩ | ⟨j1, c1', m1, h1, hr⟩
    · exact az_fl hto (W _ h1)
    obtain ⟨pd, out1, k2, k3, k4, k5, k6⟩ := W _ h1
    have k2 : az_to t v lk _ (j1, pd ++ 40 :: q, d + 1 + az_n pd, true, out1) := k2
    have hlen := pz_len _ _ _ _ _ _ _ _ h1
    have hstop := pz_stop _ _ _ _ _ _ _ _ h1
    have k3' : ∀ y ∈ pd, 1 ≤ az_rank y ∧ az_rank y ≤ 6 := fun y hy => ⟨by have := (k3 y hy).1; omega, (k3 y hy).2⟩
    have hG1 := az_GX (q := q) (x := 40) (i := i + 1) k4 (B := 2) (by omega) (by omega) (by omega) k5 (by omega) hlen.2.1
    have hnw := az_nowX (q := q) (fun y hy => (k3' y hy).1) (show 40 ≤ 40 by decide)
    have hbn : az_between (t j1) (pd ++ 40 :: q) = none := az_betN (hstop.2.1 (by omega)) (hstop.1 (by omega)) (Or.inl (by rw [hnw]; decide))
    unfold pz_want at hr
    split at hr
    case isFalse hw =>
      cases hr
      refine az_fl (az_tr hto k2) (az_f1 hG1 ?_)
      show az_behind t j1 (pd ++ 40 :: q) (d + 1 + az_n pd) out1 = _
      have hp : az_part (t j1) (pd ++ 40 :: q) = none := by
        unfold az_part
        rw [hnw]
        simp [hw]
      unfold az_behind
      rw [hbn]
      simp [hp, hnw]
    rename_i hw
    cases hr
    refine az_goes_t (az_tr hto k2) (az_goes_1 hG1 ?_)
    show az_behind t j1 (pd ++ 40 :: q) (d + 1 + az_n pd) out1 = _
    have hp : az_part (t j1) (pd ++ 40 :: q) = some 0 := by
      unfold az_part
      rw [hnw]
      simp [hw]
    unfold az_behind
    rw [hbn]
    simp only [hp]
    rw [az_setX k3' (by decide), k4, hnw]
    simp
  rw [if_neg c3] at hr hbeg
  by_cases c4 : t i = 45
  · rw [if_pos c4] at hr hbeg
    exact un 5 55 (by decide) hbeg hr (fun z => by unfold az_ask; simp [az_rank])
  rw [if_neg c4] at hr hbeg
  by_cases c5 : t i = 29
  · rw [if_pos c5] at hr hbeg
    unfold pz_open at hr
    split at hr
    · rename_i h8
      cases hr
      exact (hop 41 hbeg).1 h8
    rename_i h8
    have hto := (hop 41 hbeg).2 h8
    have W := fun r' (hr' : pz_P t v lk n 2 (d + 1) (i + 1) p = some r') => h2 (d + 1) (i + 1) p (41 :: q) out r' hr' (by omega) (fun _ => rfl) (by simp only [List.length_cons]; omega) (by simp only [List.length_cons]; omega)
    rcases pz_bind_e hr with ⟨e, h1, rfl⟩ | ⟨j1, c1', m1, h1, hr⟩
    · exact az_fl hto (W _ h1)
    have hlen := pz_len _ _ _ _ _ _ _ _ h1
    have k : az_goes t v lk (i + 1, 41 :: q, d + 1, false, out) (az_endOne t j1 (41 :: q) (d + 1) (out ++ m1)) := W _ h1
    rw [az_end_d] at k
    unfold pz_want at hr
    split at hr
    case isFalse hw =>
      cases hr
      rw [if_neg hw] at k
      exact az_fl hto (az_goes_r k)
    rename_i hw
    rw [if_pos hw] at k
    have hto2 := az_tr hto (az_goes_l k)
    have W2 := fun r' (hr' : pz_P t v lk n 2 (d + 1) (j1 + 1) (p + c1'.length) = some r') => h2 (d + 1) (j1 + 1) _ (4 :: q) (out ++ m1) r' hr' (by omega) (fun _ => by unfold az_ask; simp [az_rank]) (by simp only [List.length_cons]; omega) (by simp only [List.length_append, List.length_cons]; omega)
    rcases pz_bind_e hr with ⟨e, h3, rfl⟩ | ⟨j2, c2', m2, h3, hr⟩
    · exact az_fl hto2 (W2 _ h3)
    cases hr
    have k2 : az_goes t v lk (j1 + 1, 4 :: q, d + 1, false, out ++ m1) (az_endOne t j2 (4 :: q) (d + 1) (out ++ m1 ++ m2)) := W2 _ h3
    rw [az_end_u (by decide)] at k2
    have e : out ++ m1 ++ m2 ++ [(4, 0)] = out ++ (m1 ++ m2 ++ [(4, 0)]) := by simp
    rw [e] at k2
    exact az_goes_t hto2 k2
  rw [if_neg c5] at hr hbeg
  by_cases c6 : t i = 30
  · rw [if_pos c6] at hr hbeg
    exact un 2 30 (by decide) hbeg hr (fun z => by unfold az_ask; simp [az_rank])
  rw [if_neg c6] at hr hbeg
  by_cases c7 : t i = 22
  · rw [if_pos c7] at hr hbeg
    unfold pz_open at hr
    split at hr
    · rename_i h8
      cases hr
      exact (hop 42 hbeg).1 h8
    rename_i h8
    have hto := (hop 42 hbeg).2 h8
    have k := h3 d (i + 1) p q out r hr (by omega) (by omega) (by omega)
    cases r with
    | inl e => exact az_fl hto k
    | inr x => exact az_goes_t hto k
  rw [if_neg c7] at hr hbeg
  cases hr
  rw [if_neg (fun hh => by rw [hN hh.1] at hh; exact absurd hh.2 (by decide))] at hbeg
  exact az_f1 hG hbeg
theorem az_all : ∀ n, az_2 t v lk n ∧ az_3 t v lk n ∧ az_W t v lk n 1 5 6 1 false ∧ az_W t v lk n 0 4 5 2 false ∧ az_W t v lk n 6 3 3 3 true ∧ az_W t v lk n 5 1 2 4 true ∧ az_W t v lk n 4 0 1 5 true ∧ az_T t v lk n 8 6 1 false ∧ az_T t v lk n 7 5 2 false ∧ az_T t v lk n 10 2 4 true ∧ az_T t v lk n 9 1 5 true := by
  intro n
  induction n with
  | zero => exact ⟨fun _ _ _ _ _ _ h => (by cases h), fun _ _ _ _ _ _ h => (by cases h), fun _ _ _ _ _ _ h => (by cases h), fun _ _ _ _ _ _ h => (by cases h), fun _ _ _ _ _ _ h => (by cases h), fun _ _ _ _ _ _ h => (by cases h), fun _ _ _ _ _ _ h => (by cases h), fun _ _ _ _ _ _ _ h => (by cases h), fun _ _ _ _ _ _ _ h => (by cases h), fun _ _ _ _ _ _ _ h => (by cases h), fun _ _ _ _ _ _ _ h => (by cases h)⟩
  | succ n ih =>
    obtain ⟨h2, h3, h1, h0, h6, h5, h4, t8, t7, t10, t9⟩ := ih
    have w2 := az_W2 h2
    exact ⟨az_One h0 h2 h3, az_choice h0 h4,
      az_two w2 t8 (by omega) (by omega) (by omega) (by omega) rfl,
      az_two h1 t7 (by omega) (by omega) (by omega) (by omega) rfl,
      az_Ask h0 h6,
      az_two h6 t10 (by omega) (by omega) (by omega) (by omega) rfl,
      az_two h5 t9 (by omega) (by omega) (by omega) (by omega) rfl,
      az_more az_gP w2 t8 (by omega) (by omega) (by omega) (by omega) rfl (by omega) (by omega) (by omega) (fun _ => by omega),
      az_more az_gS h1 t7 (by omega) (by omega) (by omega) (by omega) rfl (by omega) (by omega) (by omega) (fun _ => by omega),
      az_more az_gB h6 t10 (by omega) (by omega) (by omega) (by omega) rfl (by omega) (by omega) (by omega) (fun q => (by cases q)),
      az_more az_gE h5 t9 (by omega) (by omega) (by omega) (by omega) rfl (by omega) (by omega) (by omega) (fun q => (by cases q))⟩
/-- a whole SUM: the pile comes to the same fault at the same place; or ends there, and all is written -/
theorem az_sum {n i p : Nat} {out : pz_C} {r : pz_R} (hr : pz_P t v lk n 0 0 i p = some r) (ho : out.length ≤ i) : match r with
    | .inl e => az_fail t v lk (i, [], 0, false, out) e
    | .inr x => ∃ pd out', az_to t v lk (i, [], 0, false, out) (x.1, pd, 0, true, out') ∧ az_G (x.1, pd, 0, true, out') ∧ az_step t v lk (x.1, pd, 0, true, out') = .inr (0, x.1) ∧ az_settle 1 pd 0 out' = ([], 0, out ++ x.2.2) := by
  have h := (az_all (t := t) (v := v) (lk := lk) n).2.2.2.1 0 i p [] out r hr (by omega) (fun x hx => by cases hx) (fun q => (by cases q)) (fun _ _ => rfl) (by simp) (by simpa using ho)
  cases r with
  | inl e => exact h
  | inr x =>
    obtain ⟨xj, xc, xm⟩ := x
    obtain ⟨pd, out', h1, h2, h3, h4, h5⟩ := h
    have hn : az_n pd = 0 := az_n_0 (fun y hy => by have := (h2 y hy).1; omega)
    have h1 : az_to t v lk (i, [], 0, false, out) (xj, pd ++ [], 0 + az_n pd, true, out') := h1
    rw [List.append_nil, hn] at h1
    have hlen := pz_len _ _ _ _ _ _ _ _ hr
    have hstop := pz_stop _ _ _ _ _ _ _ _ hr
    have h3' : out'.length + pd.length = out.length + xm.length := by
      have := congrArg List.length h3
      simp [az_o] at this
      omega
    have hnw : az_now pd = none := by
      have := az_now_p (pd := pd) (q := []) (fun y hy => by have := (h2 y hy).1; omega)
      rw [List.append_nil] at this
      exact this
    refine ⟨pd, out', h1, ⟨by show pd.length ≤ 120; omega, by show out'.length + pd.length ≤ xj; have := hlen.2.1; omega⟩, ?_, ?_⟩
    · show az_behind t xj pd 0 out' = _
      have hbn : az_between (t xj) pd = none := az_betN (hstop.2.1 (by omega)) (hstop.1 (by omega)) (Or.inl (by rw [hnw]; decide))
      have hp : az_part (t xj) pd = none := by
        unfold az_part
        rw [hnw]
      unfold az_behind
      rw [hbn]
      simp [hp, hnw]
    · have := az_settle_p (least := 1) (pd := pd) (q := []) (o := 0) (out := out') (fun y hy => ⟨by have := (h2 y hy).1; omega, by have := (h2 y hy).2; omega⟩) (fun y hy => by cases hy)
      rw [List.append_nil, hn] at this
      rw [this, h3]
end AZ3
