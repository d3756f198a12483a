/-! ===== the reference's pile reads as the class's descent does ===== -/
def az_res (t v : Nat → Nat) (lk : Nat) (s : az_S) (d rk B : Nat) (bl : Bool) (q : List Nat) (base : pz_C) (r : pz_R) : Prop := match r with
  | .inl e => az_fail t v lk s e
  | .inr x => ∃ pd out', az_to t v lk s (x.1, pd ++ q, d + az_n pd, true, out') ∧ (∀ y ∈ pd, rk ≤ az_rank y ∧ az_rank y ≤ 6) ∧ out' ++ az_o pd = base ++ x.2.2 ∧ pd.length + d ≤ B + 8 ∧ (bl = true → az_cmpd (pd ++ q) = true)
def az_end2 (t v : Nat → Nat) (lk : Nat) (s : az_S) (q : List Nat) (d : Nat) (out : pz_C) (r : pz_R) : Prop := match r with
  | .inl e => az_fail t v lk s e
  | .inr x => az_goes t v lk s (az_endOne t x.1 q d (out ++ x.2.2))
/-- of a kind, at its place -/
def az_W (t v : Nat → Nat) (lk n k lo rk B : Nat) (bl : Bool) : Prop := ∀ d i p q out r, pz_P t v lk n k d i p = some r → d ≤ 8 → az_lo lo q → (bl = true → az_now q = some 42) → (bl = false → t i = 28 → az_ask q = false) → q.length + B ≤ 10 * d + 6 → out.length + q.length ≤ i → az_res t v lk (i, q, d, false, out) d rk B bl q out r
/-- behind one of a kind -/
def az_T (t v : Nat → Nat) (lk n k rk B : Nat) (bl : Bool) : Prop := ∀ d i p pd q out r, pz_P t v lk n k d i p = some r → d ≤ 8 → az_lo (rk - 1) q → (bl = true → az_now q = some 42) → (bl = true → az_cmpd (pd ++ q) = true) → q.length + B ≤ 10 * d + 6 → out.length + (pd ++ q).length ≤ i → (∀ y ∈ pd, rk ≤ az_rank y ∧ az_rank y ≤ 6) → pd.length + d ≤ B + 8 → az_res t v lk (i, pd ++ q, d + az_n pd, true, out) d rk B bl q (out ++ az_o pd) r
def az_2 (t v : Nat → Nat) (lk n : Nat) : Prop := ∀ d i p q out r, pz_P t v lk n 2 d i p = some r → d ≤ 8 → (t i = 28 → az_ask q = false) → q.length ≤ 10 * d + 6 → out.length + q.length ≤ i → az_end2 t v lk (i, q, d, false, out) q d out r
def az_3 (t v : Nat → Nat) (lk n : Nat) : Prop := ∀ d i p q out r, pz_P t v lk n 3 (d + 1) i p = some r → d + 1 ≤ 8 → q.length + 1 + 5 ≤ 10 * (d + 1) + 6 → out.length + (q.length + 1) ≤ i → az_end2 t v lk (i, 42 :: q, d + 1, false, out) q d out r
section AZ2
variable {t v : Nat → Nat} {lk : Nat}
theorem az_lo_le {a b : Nat} {q : List Nat} (h : az_lo a q) (hab : a ≤ b) : az_lo b q := fun x hx => ⟨Nat.le_trans (h x hx).1 hab, (h x hx).2⟩
theorem az_lo_c {r x : Nat} {q : List Nat} (h : az_rank x ≤ r) (h2 : x ≠ 41) : az_lo r (x :: q) := fun y hy => by cases hy; exact ⟨h, h2⟩
theorem az_W2 {n : Nat} (h : az_2 t v lk n) : az_W t v lk n 2 6 7 0 false := by
  intro d i p q out r hr hd hlo _ hN hq ho
  have h1 := h d i p q out r hr hd (hN rfl) (by omega) ho
  cases r with
  | inl e => exact h1
  | inr x =>
    have h1 : az_goes t v lk _ _ := h1
    rw [az_end_lo hlo] at h1
    refine ⟨[], out ++ x.2.2, az_goes_l h1, fun y hy => (by cases hy), ?_, (by simp; omega), fun q => (by cases q)⟩
    simp [az_o]
theorem az_resT {s s' : az_S} {d rk B : Nat} {bl : Bool} {q : List Nat} {base : pz_C} {r : pz_R} (h : az_to t v lk s s') (h2 : az_res t v lk s' d rk B bl q base r) : az_res t v lk s d rk B bl q base r := by
  cases r with
  | inl e => exact az_fl h h2
  | inr x =>
    obtain ⟨pd, out', h3, h4⟩ := h2
    exact ⟨pd, out', az_tr h h3, h4⟩
/-- what g lets stand between two, the pile takes -/
def az_gok (g : Nat → Option Nat) (rk : Nat) (bl : Bool) : Prop := ∀ x y, g x = some y → az_rank y = rk ∧ y ≠ 41 ∧ y ≠ 20 ∧ ∀ q, (bl = true → az_now q = some 42 ∧ az_cmpd q = true) → az_between x q = some y
theorem az_gS : az_gok pz_gS 5 false := by
  intro x y h
  unfold pz_gS at h
  split at h
  · cases h; subst x; exact ⟨by decide, by decide, by decide, fun q _ => rfl⟩
  · split at h
    · cases h; subst x; exact ⟨by decide, by decide, by decide, fun q _ => rfl⟩
    · cases h
theorem az_gP : az_gok pz_gP 6 false := by
  intro x y h
  unfold pz_gP at h
  split at h
  · cases h; subst x; exact ⟨by decide, by decide, by decide, fun q _ => rfl⟩
  · split at h
    · cases h; subst x; exact ⟨by decide, by decide, by decide, fun q _ => rfl⟩
    · cases h
theorem az_gE : az_gok pz_gE 1 true := by
  intro x y h
  unfold pz_gE at h
  split at h
  · cases h; subst x
    refine ⟨by decide, by decide, by decide, fun q hq => ?_⟩
    obtain ⟨h1, h2⟩ := hq rfl
    simp [az_between, h1, h2]
  · cases h
theorem az_gB : az_gok pz_gB 2 true := by
  intro x y h
  unfold pz_gB at h
  split at h
  · cases h; subst x
    refine ⟨by decide, by decide, by decide, fun q hq => ?_⟩
    obtain ⟨h1, h2⟩ := hq rfl
    simp [az_between, h1, h2]
  · cases h
theorem az_two {n k k' lo rk B rki Bi : Nat} {bl bli : Bool} (hk : az_W t v lk n k lo rki Bi bli) (hk' : az_T t v lk n k' rk B bl) (h7 : k < 7) (hlo : rk - 1 ≤ lo) (hrk : rk ≤ rki) (hB : Bi ≤ B) (hb : bl = bli) :
    ∀ d i p q out r, pz_two (pz_P t v lk n) k k' d i p = some r → d ≤ 8 → az_lo (rk - 1) q → (bl = true → az_now q = some 42) → (bl = false → t i = 28 → az_ask q = false) → q.length + B ≤ 10 * d + 6 → out.length + q.length ≤ i → az_res t v lk (i, q, d, false, out) d rk B bl q out r := by
  subst hb
  intro d i p q out r hr hd hl hnow hN hq ho
  rcases pz_bind_e hr with ⟨e, h1, rfl⟩ | ⟨j1, c1, m1, h1, hr⟩
  · exact hk d i p q out _ h1 hd (az_lo_le hl hlo) hnow hN (by omega) ho
  obtain ⟨pd, out', h2, h3, h4, h5, h6⟩ := hk d i p q out _ h1 hd (az_lo_le hl hlo) hnow hN (by omega) ho
  have hlen := pz_len _ _ _ _ _ _ _ _ h1
  have h4' : out'.length + pd.length = out.length + m1.length := by
    have := congrArg List.length h4
    simpa [az_o] using this
  have h2' : az_to t v lk (i, q, d, false, out) (j1, pd ++ q, d + az_n pd, true, out') := h2
  have key : ∀ r', pz_P t v lk n k' d j1 (p + c1.length) = some r' → az_res t v lk (i, q, d, false, out) d rk B bl q (out ++ m1) r' := fun r' hr' => by
    have := hk' d j1 _ pd q out' r' hr' hd hl hnow h6 hq (by simp only [List.length_append]; omega) (fun y hy => ⟨Nat.le_trans hrk (h3 y hy).1, (h3 y hy).2⟩) (by omega)
    rw [h4] at this
    exact az_resT h2' this
  rcases pz_bind_e hr with ⟨e, h7, rfl⟩ | ⟨j2, c2, m2, h7, hr⟩
  · exact key _ h7
  · cases hr
    obtain ⟨pd2, out2, k2, k3, k4, k5⟩ := key _ h7
    exact ⟨pd2, out2, k2, k3, by rw [k4]; simp, k5⟩
theorem az_more {n k k' lo rk B rki Bi : Nat} {bl bli : Bool} {g : Nat → Option Nat} (hg : az_gok g rk bl) (hk : az_W t v lk n k lo rki Bi bli) (hk' : az_T t v lk n k' rk B bl) (h7 : k < 7) (hlo : rk ≤ lo) (hrk : rk ≤ rki) (hB : Bi + 1 ≤ B) (hb : bl = bli) (hr1 : 1 ≤ rk) (hr6 : rk ≤ 6) (hr4 : rk ≠ 4) (hask : bl = false → 4 ≤ rk) :
    ∀ d i p pd q out r, pz_more t (pz_P t v lk n) g k k' d i p = some r → d ≤ 8 → az_lo (rk - 1) q → (bl = true → az_now q = some 42) → (bl = true → az_cmpd (pd ++ q) = true) → q.length + B ≤ 10 * d + 6 → out.length + (pd ++ q).length ≤ i → (∀ y ∈ pd, rk ≤ az_rank y ∧ az_rank y ≤ 6) → pd.length + d ≤ B + 8 → az_res t v lk (i, pd ++ q, d + az_n pd, true, out) d rk B bl q (out ++ az_o pd) r := by
  subst hb
  intro d i p pd q out r hr hd hl hnow hcm hq ho hpd hpl
  unfold pz_more at hr
  split at hr
  · cases hr
    refine ⟨pd, out, az_rfl _, hpd, by simp, hpl, hcm⟩
  rename_i y hy
  obtain ⟨g1, g2, g3, g4⟩ := hg _ _ hy
  have hpd1 : ∀ y ∈ pd, 1 ≤ az_rank y := fun y hy => Nat.le_trans hr1 (hpd y hy).1
  have hbt := g4 (pd ++ q) (fun hb => ⟨by rw [az_now_p hpd1]; exact hnow hb, hcm hb⟩)
  have hset : ∀ l, l = rk → az_settle l (pd ++ q) (d + az_n pd) out = (q, d, out ++ az_o pd) := fun l hl' => by
    subst hl'
    exact az_settle_p (fun x hx => ⟨(hpd x hx).1, by have := (hpd x hx).2; omega⟩) (fun x hx => by have := (hl x hx).1; omega)
  have hG : az_G (i, pd ++ q, d + az_n pd, true, out) := by
    refine ⟨?_, ho⟩
    show (pd ++ q).length ≤ 120
    simp only [List.length_append]; omega
  have hst : az_step t v lk (i, pd ++ q, d + az_n pd, true, out) = .inl (i + 1, y :: q, d, false, out ++ az_o pd) := by
    have hrk4 : (if az_rank y = 4 then 5 else az_rank y) = rk := by
      rw [g1, if_neg hr4]
    show az_behind t i (pd ++ q) (d + az_n pd) out = _
    unfold az_behind
    rw [hbt]
    show Sum.inl (i + 1, y :: (az_settle (if az_rank y = 4 then 5 else az_rank y) (pd ++ q) (d + az_n pd) out).1, _, false, _) = _
    rw [hset _ hrk4]
  have hto := az_one (t := t) (v := v) (lk := lk) hG hst
  have hq2 : (y :: q).length + Bi ≤ 10 * d + 6 := by simp only [List.length_cons]; omega
  have ho2 : (out ++ az_o pd).length + (y :: q).length ≤ i + 1 := by
    simp only [List.length_append, List.length_cons, az_o, List.length_map] at ho ⊢; omega
  have hnow2 : bl = true → az_now (y :: q) = some 42 := fun hb => by
    have : az_now ([y] ++ q) = az_now q := az_now_p (fun x hx => by rw [List.mem_singleton.mp hx, g1]; exact hr1)
    exact this.trans (hnow hb)
  have hN2 : bl = false → t (i + 1) = 28 → az_ask (y :: q) = false := fun hb _ => by
    have := hask hb
    unfold az_ask
    have h1 : ¬ 40 ≤ y := fun hh => by unfold az_rank at g1; rw [if_pos hh] at g1; omega
    simp [h1, g1]
    omega
  have W := fun r' (hr' : pz_P t v lk n k d (i + 1) p = some r') => hk d (i + 1) p (y :: q) (out ++ az_o pd) r' hr' hd (az_lo_c (by omega) g2) hnow2 hN2 hq2 ho2
  rcases pz_bind_e hr with ⟨e, h1, rfl⟩ | ⟨j1, c1, m1, h1, hr⟩
  · exact az_fl hto (W _ h1)
  obtain ⟨pd1, out1, k2, k3, k4, k5, k6⟩ := W _ h1
  have hlen := pz_len _ _ _ _ _ _ _ _ h1
  have hn1 : az_n (pd1 ++ [y]) = az_n pd1 := by
    unfold az_n
    rw [List.countP_append]
    simp [g3]
  have hassoc : (pd1 ++ [y]) ++ q = pd1 ++ y :: q := by simp
  have k4' : out1.length + pd1.length = out.length + pd.length + m1.length := by
    have := congrArg List.length k4
    simp [az_o] at this
    omega
  have key : ∀ r', pz_P t v lk n k' d j1 (p + c1.length + 1) = some r' → az_res t v lk (i, pd ++ q, d + az_n pd, true, out) d rk B bl q (out ++ az_o pd ++ m1 ++ [(y, 0)]) r' := fun r' hr' => by
    have := hk' d j1 _ (pd1 ++ [y]) q out1 r' hr' hd hl hnow (fun hb => by rw [hassoc]; exact k6 hb) hq (by
      have h7' := hlen.2.2 h7
      simp only [List.length_append, List.length_cons, List.length_nil] at ho ⊢; omega) (fun x hx => by
      rcases List.mem_append.mp hx with hx | hx
      · exact ⟨Nat.le_trans hrk (k3 x hx).1, (k3 x hx).2⟩
      · rw [List.mem_singleton.mp hx, g1]
        exact ⟨Nat.le_refl _, hr6⟩) (by simp only [List.length_append, List.length_cons, List.length_nil]; omega)
    rw [hn1, hassoc, az_o_app, ← List.append_assoc, k4] at this
    exact az_resT (az_tr hto k2) this
  rcases pz_bind_e hr with ⟨e, h7, rfl⟩ | ⟨j2, c2, m2, h7, hr⟩
  · exact key _ h7
  · cases hr
    obtain ⟨pd2, out2, k2, k3, k4, k5⟩ := key _ h7
    exact ⟨pd2, out2, k2, k3, by rw [k4]; simp, k5⟩
/-- ASK -/
theorem az_cmp_r {x y : Nat} (h : pz_cmp x = some y) : az_rank y = 4 ∧ y ≠ 41 ∧ y ≠ 20 ∧ ¬ 40 ≤ y ∧ x ≠ 44 ∧ x ≠ 45 ∧ x ≠ 46 ∧ x ≠ 47 := by
  unfold pz_cmp at h
  (repeat' split at h) <;> first | (cases h; subst x; decide) | cases h
theorem az_askT {q : List Nat} (h : az_lo 3 q) (hn : az_now q = some 42) : az_ask q = true := by
  unfold az_ask
  cases q with
  | nil => cases hn
  | cons x q =>
    have := (h x rfl).1
    simp only [hn, decide_true, Bool.true_and, Bool.or_eq_true, Bool.and_eq_true, decide_eq_true_eq]
    by_cases h40 : 40 ≤ x
    · exact Or.inl h40
    · refine Or.inr ⟨?_, this⟩
      unfold az_rank
      rw [if_neg h40]
      repeat' split
      all_goals omega
theorem az_cmpF {q : List Nat} (h : az_lo 3 q) : az_cmpd q = false := by
  cases q with
  | nil => rfl
  | cons x q =>
    have := (h x rfl).1
    rw [az_cmpd_t (by omega)]
    exact decide_eq_false (by omega)
theorem az_Ask {n : Nat} (h0 : az_W t v lk n 0 4 5 2 false) (h6 : az_W t v lk n 6 3 3 3 true) : az_W t v lk (n + 1) 6 3 3 3 true := by
  intro d i p q out r hr hd hl hnow _ hq ho
  have hnow := hnow rfl
  change pz_ask t (pz_P t v lk n) d i p = some r at hr
  unfold pz_ask pz_open at hr
  have hG : az_G (i, q, d, false, out) := ⟨by show q.length ≤ 120; omega, ho⟩
  split at hr
  · rename_i h28
    have hst : az_step t v lk (i, q, d, false, out) = az_opened i q d out 20 := by
      show az_begin t v lk i q d out = _
      unfold az_begin
      simp [h28, az_askT hl hnow]
    unfold az_opened at hst
    split at hr
    · cases hr
      rw [if_pos (by omega)] at hst
      exact az_f1 hG hst
    · rw [if_neg (by omega)] at hst
      have hto := az_one (t := t) (v := v) (lk := lk) hG hst
      have W := fun r' (hr' : pz_P t v lk n 6 (d + 1) (i + 1) p = some r') => h6 (d + 1) (i + 1) p (20 :: q) out r' hr' (by omega) (az_lo_c (by decide) (by decide)) (fun _ => by
        have : az_now ([20] ++ q) = az_now q := az_now_p (fun x hx => by rw [List.mem_singleton.mp hx]; decide)
        exact this.trans hnow) (fun q => (by cases q)) (by simp only [List.length_cons]; omega) (by simp only [List.length_cons]; omega)
      rcases pz_bind_e hr with ⟨e, h1, rfl⟩ | ⟨j1, c1, m1, h1, hr⟩
      · exact az_fl hto (W _ h1)
      · cases hr
        obtain ⟨pd, out1, k2, k3, k4, k5, k6⟩ := W _ h1
        have hassoc : (pd ++ [20]) ++ q = pd ++ 20 :: q := by simp
        have hn : d + az_n (pd ++ [20]) = d + 1 + az_n pd := by
          unfold az_n
          rw [List.countP_append]
          simp
          omega
        refine ⟨pd ++ [20], out1, ?_, fun y hy => ?_, ?_, ?_, fun _ => ?_⟩
        · rw [hassoc, hn]
          exact az_tr hto k2
        · rcases List.mem_append.mp hy with hy | hy
          · exact k3 y hy
          · rw [List.mem_singleton.mp hy]; decide
        · rw [az_o_app, ← List.append_assoc, k4, List.append_assoc]
          rfl
        · simp only [List.length_append, List.length_cons, List.length_nil]; omega
        · rw [hassoc]; exact k6 rfl
  · rename_i h28
    have W := fun r' (hr' : pz_P t v lk n 0 d i p = some r') => h0 d i p q out r' hr' hd (az_lo_le hl (by decide)) (fun q => (by cases q)) (fun _ h => absurd h h28) (by omega) ho
    rcases pz_bind_e hr with ⟨e, h1, rfl⟩ | ⟨j1, c1, m1, h1, hr⟩
    · exact W _ h1
    obtain ⟨pd, out1, k2, k3, k4, k5, k6⟩ := W _ h1
    have hlen := pz_len _ _ _ _ _ _ _ _ h1
    have hstop := pz_stop _ _ _ _ _ _ _ _ h1
    have sP := hstop.1 (by omega)
    have sS := hstop.2.1 (by omega)
    have hn0 : az_n pd = 0 := az_n_0 (fun x hx => by have := (k3 x hx).1; omega)
    have k4' : out1.length + pd.length = out.length + m1.length := by
      have := congrArg List.length k4
      simp [az_o] at this
      omega
    have k2 : az_to t v lk (i, q, d, false, out) (j1, pd ++ q, d + az_n pd, true, out1) := k2
    have hpd1 : ∀ y ∈ pd, 1 ≤ az_rank y := fun y hy => by have := (k3 y hy).1; omega
    have hnw : az_now (pd ++ q) = some 42 := by rw [az_now_p hpd1]; exact hnow
    have hcf : az_cmpd (pd ++ q) = false := by
      rw [az_cmpd_p (fun y hy => (k3 y hy).1)]; exact az_cmpF hl
    have hG1 : az_G (j1, pd ++ q, d + az_n pd, true, out1) := by
      refine ⟨?_, ?_⟩
      · show (pd ++ q).length ≤ 120
        simp only [List.length_append]; omega
      · show out1.length + (pd ++ q).length ≤ j1
        simp only [List.length_append]; omega
    split at hr
    · rename_i hc
      cases hr
      refine az_fl k2 (az_f1 hG1 ?_)
      show az_behind t j1 (pd ++ q) (d + az_n pd) out1 = _
      have hb : az_between (t j1) (pd ++ q) = none := by
        unfold pz_gS at sS
        unfold pz_gP at sP
        unfold az_between
        rw [if_neg (fun hh => by simp [hh] at sS), if_neg (fun hh => by simp [hh] at sS), if_neg (fun hh => by simp [hh] at sP), if_neg (fun hh => by simp [hh] at sP), if_neg (by simp [hnw]), if_pos hcf]
        exact hc
      have hp : az_part (t j1) (pd ++ q) = none := by
        unfold az_part
        rw [hnw]
        simp [hcf]
      unfold az_behind
      rw [hb]
      simp [hp, hnw]
    · rename_i y hc
      obtain ⟨c1r, c2r, c3r, c4r, c5r, c6r, c7r, c8r⟩ := az_cmp_r hc
      have hb : az_between (t j1) (pd ++ q) = some y := by
        unfold az_between
        rw [if_neg c5r, if_neg c6r, if_neg c7r, if_neg c8r, if_neg (by simp [hnw]), if_pos hcf]
        exact hc
      have hst : az_step t v lk (j1, pd ++ q, d + az_n pd, true, out1) = .inl (j1 + 1, y :: q, d, false, out1 ++ az_o pd) := by
        show az_behind t j1 (pd ++ q) (d + az_n pd) out1 = _
        unfold az_behind
        rw [hb]
        show Sum.inl (j1 + 1, y :: (az_settle (if az_rank y = 4 then 5 else az_rank y) (pd ++ q) (d + az_n pd) out1).1, _, false, _) = _
        rw [if_pos c1r, az_settle_p (fun x hx => ⟨(k3 x hx).1, by have := (k3 x hx).2; omega⟩) (fun x hx => by have := (hl x hx).1; omega)]
      have hto := az_tr k2 (az_one hG1 hst)
      have W2 := fun r' (hr' : pz_P t v lk n 0 d (j1 + 1) (p + c1.length) = some r') => h0 d (j1 + 1) _ (y :: q) (out1 ++ az_o pd) r' hr' hd (az_lo_c (by omega) c2r) (fun q => (by cases q)) (fun _ _ => by
        unfold az_ask
        simp [c1r]
        intro _
        omega) (by simp only [List.length_cons]; omega) (by simp only [List.length_append, List.length_cons, az_o, List.length_map]; omega)
      rcases pz_bind_e hr with ⟨e, h2, rfl⟩ | ⟨j2, c2, m2, h2, hr⟩
      · exact az_fl hto (W2 _ h2)
      cases hr
      obtain ⟨pd2, out2, e2, e3, e4, e5, e6⟩ := W2 _ h2
      have hassoc : (pd2 ++ [y]) ++ q = pd2 ++ y :: q := by simp
      have hn : az_n (pd2 ++ [y]) = az_n pd2 := by
        unfold az_n
        rw [List.countP_append]
        simp [c3r]
      refine ⟨pd2 ++ [y], out2, ?_, fun z hz => ?_, ?_, ?_, fun _ => ?_⟩
      · rw [hassoc, hn]
        exact az_tr hto e2
      · rcases List.mem_append.mp hz with hz | hz
        · have := e3 z hz; omega
        · rw [List.mem_singleton.mp hz]; omega
      · rw [az_o_app, ← List.append_assoc, e4, k4]
        simp [az_o]
      · simp only [List.length_append, List.length_cons, List.length_nil]; omega
      · rw [hassoc, az_cmpd_p (fun x hx => (e3 x hx).1), az_cmpd_t (by omega)]
        exact decide_eq_true c1r
end AZ2
