section EZ2
variable {kn : Nat → Int} {ice : Int → Bool} {t v : Nat → Nat} {lk : Nat}
theorem ez_clip_ok (x : Int) : ez_ok false (ez_clip x) := by
  unfold ez_ok ez_clip
  rw [if_neg (by decide)]
  split
  · omega
  · split <;> omega
theorem ez_b_ok (b : Bool) : ez_ok true (ez_b b) := by cases b <;> simp [ez_ok, ez_b]
theorem ez_b_ne (b : Bool) : decide (ez_b b ≠ 0) = b := by cases b <;> rfl
theorem ez_dig_ok (a b : Int) : ez_ok false (ez_dig a b) := by
  unfold ez_ok ez_dig
  rw [if_neg (by decide)]
  split
  · omega
  · have := Nat.mod_lt (b.natAbs / 10 ^ a.toNat) (show 0 < 10 by decide)
    omega
def ez_gok (kn : Nat → Int) (ice : Int → Bool) (g : Nat → Option Nat) (bl bl' : Bool) : Prop := ∀ op y, g op = some y → (op ≠ 32 ∧ op ≠ 10 ∧ op ≠ 24 ∧ op ≠ 53 ∧ op ≠ 23 ∧ op ≠ 55 ∧ op ≠ 28 ∧ op ≠ 30) ∧ ∀ a b, ez_ok bl a → ez_ok bl b → ez_ok bl' (ez_w op a b) ∧ ∀ s, mz_step kn ice (y, 0) (ez_push bl b (ez_push bl a s)) = some (ez_push bl' (ez_w op a b) s)
theorem ez_w44 (a b : Int) : ez_w 44 a b = ez_clip (a + b) := by unfold ez_w; rw [if_pos rfl]
theorem ez_w45 (a b : Int) : ez_w 45 a b = ez_clip (a - b) := by unfold ez_w; rw [if_neg (by decide), if_pos rfl]
theorem ez_w46 (a b : Int) : ez_w 46 a b = ez_clip (a * b) := by unfold ez_w; rw [if_neg (by decide), if_neg (by decide), if_pos rfl]
theorem ez_w47 (a b : Int) : ez_w 47 a b = if b = 0 then 0 else ez_clip (a.tdiv b) := by unfold ez_w; rw [if_neg (by decide), if_neg (by decide), if_neg (by decide), if_pos rfl]
theorem ez_gS : ez_gok kn ice pz_gS false false := by
  intro x y h
  unfold pz_gS at h
  split at h
  · cases h; subst x
    refine ⟨by decide, fun a b _ _ => ?_⟩
    rw [ez_w44]
    exact ⟨ez_clip_ok _, fun s => by simp [mz_step, ez_push]⟩
  · split at h
    · cases h; subst x
      refine ⟨by decide, fun a b _ _ => ?_⟩
      rw [ez_w45]
      exact ⟨ez_clip_ok _, fun s => by simp [mz_step, ez_push]⟩
    · cases h
theorem ez_gP : ez_gok kn ice pz_gP false false := by
  intro x y h
  unfold pz_gP at h
  split at h
  · cases h; subst x
    refine ⟨by decide, fun a b _ _ => ?_⟩
    rw [ez_w46]
    exact ⟨ez_clip_ok _, fun s => by simp [mz_step, ez_push]⟩
  · split at h
    · cases h; subst x
      refine ⟨by decide, fun a b _ _ => ?_⟩
      rw [ez_w47]
      refine ⟨?_, fun s => by simp [mz_step, ez_push]⟩
      split
      · unfold ez_ok
        rw [if_neg (by decide)]
        omega
      · exact ez_clip_ok _
    · cases h
theorem ez_gD : ez_gok kn ice (fun x => if x = 29 then some 4 else none) false false := by
  intro x y h
  dsimp only at h
  split at h
  · cases h; subst x
    exact ⟨by decide, fun a b _ _ => ⟨ez_dig_ok _ _, fun s => rfl⟩⟩
  · cases h
theorem ez_w27 : ez_w 27 0 0 = 0 ∧ ez_w 27 0 1 = 0 ∧ ez_w 27 1 0 = 0 ∧ ez_w 27 1 1 = 1 := by decide +kernel
theorem ez_w26 : ez_w 26 0 0 = 0 ∧ ez_w 26 0 1 = 1 ∧ ez_w 26 1 0 = 1 ∧ ez_w 26 1 1 = 1 := by decide +kernel
theorem ez_ok1 {a : Int} (h : ez_ok true a) : a = 0 ∨ a = 1 := by
  unfold ez_ok at h
  rw [if_pos rfl] at h
  exact h
theorem ez_gB : ez_gok kn ice pz_gB true true := by
  intro x y h
  unfold pz_gB at h
  split at h
  · cases h; subst x
    refine ⟨by decide, fun a b ha hb => ?_⟩
    obtain ⟨e1, e2, e3, e4⟩ := ez_w27
    rcases ez_ok1 ha with rfl | rfl <;> rcases ez_ok1 hb with rfl | rfl
    · rw [e1]; exact ⟨ez_b_ok false, fun s => rfl⟩
    · rw [e2]; exact ⟨ez_b_ok false, fun s => rfl⟩
    · rw [e3]; exact ⟨ez_b_ok false, fun s => rfl⟩
    · rw [e4]; exact ⟨ez_b_ok true, fun s => rfl⟩
  · cases h
theorem ez_gE : ez_gok kn ice pz_gE true true := by
  intro x y h
  unfold pz_gE at h
  split at h
  · cases h; subst x
    refine ⟨by decide, fun a b ha hb => ?_⟩
    obtain ⟨e1, e2, e3, e4⟩ := ez_w26
    rcases ez_ok1 ha with rfl | rfl <;> rcases ez_ok1 hb with rfl | rfl
    · rw [e1]; exact ⟨ez_b_ok false, fun s => rfl⟩
    · rw [e2]; exact ⟨ez_b_ok true, fun s => rfl⟩
    · rw [e3]; exact ⟨ez_b_ok true, fun s => rfl⟩
    · rw [e4]; exact ⟨ez_b_ok true, fun s => rfl⟩
  · cases h
theorem ez_gC : ez_gok kn ice pz_cmp false true := by
  intro x y h
  unfold pz_cmp at h
  (repeat' split at h) <;> first
    | (cases h; subst x
       refine ⟨by decide, fun a b _ _ => ⟨ez_b_ok _, fun s => ?_⟩⟩
       have key : ∀ D : Bool, some (s.1, D :: s.2) = some (s.1, decide (ez_b D ≠ 0) :: s.2) := fun D => by rw [ez_b_ne]
       exact key _)
    | cases h
def ez_W (kn : Nat → Int) (ice : Int → Bool) (t v : Nat → Nat) (lk n k : Nat) (bl : Bool) : Prop := ∀ d i p j c m, pz_P t v lk n k d i p = some (.inr (j, c, m)) → d ≤ 8 → ez_V kn ice bl (ez_g k d) p c m
def ez_T (kn : Nat → Int) (ice : Int → Bool) (t v : Nat → Nat) (lk n k kp : Nat) (bl : Bool) : Prop := ∀ d i p j c m, pz_P t v lk n k d i p = some (.inr (j, c, m)) → d ≤ 8 → ez_V2 kn ice bl (ez_g kp d) p c m
theorem ez_two {n k k' kp : Nat} {bl : Bool} (h1 : ez_W kn ice t v lk n k bl) (h2 : ez_T kn ice t v lk n k' kp bl) (hg : ∀ d, ez_g k d ≤ ez_g kp d) {d i p j : Nat} {c m : pz_C} (h : pz_two (pz_P t v lk n) k k' d i p = some (.inr (j, c, m))) (hd : d ≤ 8) : ez_V kn ice bl (ez_g kp d) p c m := by
  rcases pz_bind_e h with ⟨e, -, h3⟩ | ⟨j1, c1, m1, h3, h⟩
  · cases h3
  rcases pz_bind_e h with ⟨e, -, h4⟩ | ⟨j2, c2, m2, h4, h⟩
  · cases h4
  cases h
  obtain ⟨a, a1, a2, a3⟩ := ez_V_le (h1 _ _ _ _ _ _ h3 hd) (hg d)
  obtain ⟨x, x1, x2, x3⟩ := h2 _ _ _ _ _ _ h4 hd a a1
  refine ⟨x, x1, fun code st hc hp hs => ?_, fun s => ?_⟩
  · obtain ⟨hc1, hc2⟩ := cz_has_app hc
    simp only [List.length_append] at hp ⊢
    have := cz_tr (a2 code st hc1 (by omega) hs) (x2 code st hc2 (by omega) hs)
    rw [Nat.add_assoc] at this
    exact this
  · rw [mz_app, a3 s]
    exact x3 s
theorem ez_more {n k k' kp : Nat} {bl : Bool} {g : Nat → Option Nat} (hg : ez_gok kn ice g bl bl) (h1 : ez_W kn ice t v lk n k bl) (h2 : ez_T kn ice t v lk n k' kp bl) (hgk : ∀ d, ez_g k d + 1 ≤ ez_g kp d) {d i p j : Nat} {c m : pz_C} (h : pz_more t (pz_P t v lk n) g k k' d i p = some (.inr (j, c, m))) (hd : d ≤ 8) : ez_V2 kn ice bl (ez_g kp d) p c m := by
  unfold pz_more at h
  split at h
  · cases h
    exact fun y hy => ⟨y, hy, fun code st _ _ _ => cz_rfl _, fun s => rfl⟩
  rename_i op hop
  obtain ⟨hb, hop⟩ := hg _ _ hop
  rcases pz_bind_e h with ⟨e, -, h3⟩ | ⟨j1, c1, m1, h3, h⟩
  · cases h3
  rcases pz_bind_e h with ⟨e, -, h4⟩ | ⟨j2, c2, m2, h4, h⟩
  · cases h4
  cases h
  intro a a1
  obtain ⟨b, b1, b2, b3⟩ := h1 _ _ _ _ _ _ h3 hd
  obtain ⟨o1, o2⟩ := hop a b a1 b1
  obtain ⟨x, x1, x2, x3⟩ := h2 _ _ _ _ _ _ h4 hd _ o1
  have hgd := hgk d
  refine ⟨x, x1, fun code st hc hp hs => ?_, fun s => ?_⟩
  · obtain ⟨hc1, hc2⟩ := cz_has_app hc
    obtain ⟨hc3, hc4⟩ := cz_has_c hc2
    simp only [List.length_append, List.length_cons] at hp ⊢
    have k1 := b2 code (a :: st) hc1 (by omega) (by simp only [List.length_cons]; omega)
    have k2 := x2 code st hc4 (by omega) hs
    have hst : cz_step kn ice code (p + c1.length, b :: a :: st) = some (p + c1.length + 1, ez_w (t i) a b :: st) := by
      unfold cz_step
      simp only [hc3]
      rw [if_neg hb.1, if_neg hb.2.1, if_neg hb.2.2.1, if_neg hb.2.2.2.1, if_neg hb.2.2.2.2.1, if_neg hb.2.2.2.2.2.1, if_neg hb.2.2.2.2.2.2.1, if_neg hb.2.2.2.2.2.2.2]
    have hG1 : 1 ≤ ez_g k d := by unfold ez_g; (repeat' split) <;> omega
    have := cz_tr k1 (cz_tr (cz_one (by show p + c1.length < 320; omega) (by simp only [List.length_cons]; omega) hst (by show p + c1.length < p + c1.length + 1; omega)) k2)
    have e : p + c1.length + 1 + c2.length = p + (c1.length + (c2.length + 1)) := by omega
    rw [e] at this
    exact this
  · rw [mz_app, b3]
    show (mz_step kn ice (op, 0) _).bind _ = _
    rw [o2]
    exact x3 s
/-- what is done to one alone -/
theorem ez_un {bl : Bool} {G p : Nat} {c m : pz_C} {op y : Nat} {f : Int → Int} (h : ez_V kn ice bl G p c m) (hG : 1 ≤ G) (hf : ∀ a, ez_ok bl a → ez_ok bl (f a) ∧ (∀ s, mz_step kn ice (y, 0) (ez_push bl a s) = some (ez_push bl (f a) s)) ∧ ∀ code q st, code q = (op, 0) → cz_step kn ice code (q, a :: st) = some (q + 1, f a :: st)) : ez_V kn ice bl G p (c ++ [(op, 0)]) (m ++ [(y, 0)]) := by
  obtain ⟨a, a1, a2, a3⟩ := h
  obtain ⟨f1, f2, f3⟩ := hf a a1
  refine ⟨f a, f1, fun code st hc hp hs => ?_, fun s => ?_⟩
  · obtain ⟨hc1, hc2⟩ := cz_has_app hc
    obtain ⟨hc3, -⟩ := cz_has_c hc2
    simp only [List.length_append, List.length_singleton] at hp ⊢
    have := cz_tr (a2 code st hc1 (by omega) hs) (cz_one (by show p + c.length < 320; omega) (by simp only [List.length_cons]; omega) (f3 code _ st hc3) (by show p + c.length < p + c.length + 1; omega))
    exact this
  · rw [mz_app, a3 s]
    show (mz_step kn ice (y, 0) _).bind _ = _
    rw [f2]
    rfl
theorem ez_g_s (k d : Nat) (h : ¬ 8 ≤ d) : ez_g k (d + 1) + 5 = ez_g k d := by unfold ez_g; omega
theorem ez_neg {a : Int} (h : ez_ok false a) : ez_ok false (-a) := by
  simp only [ez_ok] at *
  simp at *
  omega
theorem ez_choice {n : Nat} (h4 : ez_W kn ice t v lk n 4 true) (h0 : ez_W kn ice t v lk n 0 false) : ez_W kn ice t v lk (n + 1) 3 false := by
  intro d i p j c m h hd
  change pz_choice t (pz_P t v lk n) d i p = _ at h
  unfold pz_choice pz_want at h
  rcases pz_bind_e h with ⟨e, -, h3⟩ | ⟨j1, c1, m1, h1, h⟩
  · cases h3
  split at h
  case isFalse => cases h
  rcases pz_bind_e h with ⟨e, -, h3⟩ | ⟨j2, c2, m2, h2, h⟩
  · cases h3
  split at h
  case isFalse => cases h
  rcases pz_bind_e h with ⟨e, -, h3⟩ | ⟨j3, c3, m3, h3, h⟩
  · cases h3
  split at h
  case isFalse => cases h
  cases h
  obtain ⟨b, b1, b2, b3⟩ := h4 _ _ _ _ _ _ h1 hd
  obtain ⟨x, x1, x2, x3⟩ := h0 _ _ _ _ _ _ h2 hd
  obtain ⟨y, y1, y2, y3⟩ := h0 _ _ _ _ _ _ h3 hd
  have g40 : ez_g 4 d = ez_g 3 d := rfl
  have g0 : ez_g 0 d ≤ ez_g 3 d := by unfold ez_g; simp
  refine ⟨if b = 0 then y else x, by split <;> assumption, fun code st hc hp hs => ?_, fun s => ?_⟩
  · have hc : cz_has code p (c1 ++ ((23, p + c1.length + 1 + c2.length + 1) :: (c2 ++ (24, p + c1.length + 1 + c2.length + 1 + c3.length) :: c3))) := by simpa using hc
    obtain ⟨k1, hc⟩ := cz_has_app hc
    obtain ⟨k2, hc⟩ := cz_has_c hc
    obtain ⟨k3, hc⟩ := cz_has_app hc
    obtain ⟨k4, k5⟩ := cz_has_c hc
    simp only [List.length_append, List.length_cons] at hp ⊢
    have e : p + (c1.length + (c2.length + 1) + (c3.length + 1)) = p + c1.length + 1 + c2.length + 1 + c3.length := by omega
    have r1 := b2 code st k1 (by omega) (by omega)
    have hst : cz_step kn ice code (p + c1.length, b :: st) = some (if b = 0 then p + c1.length + 1 + c2.length + 1 else p + c1.length + 1, st) := by
      unfold cz_step
      simp only [k2]
      rfl
    have hG6 : 6 ≤ ez_g 3 d := by unfold ez_g; simp
    have r2 := cz_one (kn := kn) (ice := ice) (by show p + c1.length < 320; omega) (by simp only [List.length_cons]; omega) hst (by show p + c1.length < _; dsimp only; split <;> omega)
    rw [e]
    by_cases hb : b = 0
    · rw [if_pos hb] at r2 ⊢
      exact cz_tr r1 (cz_tr r2 (y2 code st k5 (by omega) (by omega)))
    · rw [if_neg hb] at r2 ⊢
      have r3 := x2 code st k3 (by omega) (by omega)
      have hst2 : cz_step kn ice code (p + c1.length + 1 + c2.length, x :: st) = some (p + c1.length + 1 + c2.length + 1 + c3.length, x :: st) := by
        unfold cz_step
        simp only [k4]
        rfl
      exact cz_tr r1 (cz_tr r2 (cz_tr r3 (cz_one (by show p + c1.length + 1 + c2.length < 320; omega) (by simp only [List.length_cons]; omega) hst2 (by show p + c1.length + 1 + c2.length < p + c1.length + 1 + c2.length + 1 + c3.length; omega))))
  · rw [mz_app, mz_app, mz_app, b3]
    show ((mz_run kn ice m2 _).bind _).bind _ = _
    rw [x3]
    show (mz_run kn ice m3 _).bind _ = _
    rw [y3, Option.bind_some]
    have fin : ∀ s', mz_run kn ice [(3, 0)] s' = mz_step kn ice (3, 0) s' := fun s' => by
      unfold mz_run
      cases mz_step kn ice (3, 0) s' <;> rfl
    rw [fin]
    by_cases hb : b = 0
    · subst hb; rfl
    · rw [if_neg hb]
      have : ez_push true b s = (s.1, true :: s.2) := by simp [ez_push, hb]
      rw [this]
      rfl
theorem ez_ask {n : Nat} (h0 : ez_W kn ice t v lk n 0 false) (h6 : ez_W kn ice t v lk n 6 true) : ez_W kn ice t v lk (n + 1) 6 true := by
  intro d i p j c m h hd
  change pz_ask t (pz_P t v lk n) d i p = _ at h
  unfold pz_ask pz_open at h
  split at h
  · split at h
    · cases h
    rename_i h8
    rcases pz_bind_e h with ⟨e, -, h3⟩ | ⟨j1, c1, m1, h1, h⟩
    · cases h3
    cases h
    have g := ez_g_s 6 d h8
    refine ez_V_le (ez_un (f := fun a => 1 - a) (h6 _ _ _ _ _ _ h1 (by omega)) (by unfold ez_g; simp <;> omega) (fun a ha => ⟨?_, fun s => ?_, fun code q st hq => ?_⟩)) (by omega)
    · simp only [ez_ok] at *
      simp at *
      omega
    · simp only [ez_ok] at ha
      simp at ha
      rcases ha with ha | ha <;> subst ha <;> rfl
    · unfold cz_step
      simp only [hq]
      rfl
  · rcases pz_bind_e h with ⟨e, -, h3⟩ | ⟨j1, c1, m1, h1, h⟩
    · cases h3
    split at h
    · cases h
    rename_i y hy
    rcases pz_bind_e h with ⟨e, -, h3⟩ | ⟨j2, c2, m2, h2, h⟩
    · cases h3
    cases h
    obtain ⟨k1, k2⟩ := ez_gC (kn := kn) (ice := ice) _ _ hy
    exact ez_join (h0 _ _ _ _ _ _ h1 hd) (h0 _ _ _ _ _ _ h2 hd) (by unfold ez_g; simp <;> omega) (by unfold ez_g; simp <;> omega) k2 k1
theorem ez_one {n : Nat} (hkn : ∀ j, j < 9 → -1000000 ≤ kn j ∧ kn j ≤ 1000000) (h0 : ez_W kn ice t v lk n 0 false) (h2 : ez_W kn ice t v lk n 2 false) (h3 : ez_W kn ice t v lk n 3 false) : ez_W kn ice t v lk (n + 1) 2 false := by
  intro d i p j c m h hd
  change pz_one t v lk (pz_P t v lk n) d i p = _ at h
  have hg1 : 1 ≤ ez_g 2 d := by unfold ez_g; simp <;> omega
  have leaf : ∀ op x o2 y a, ez_ok false a → (∀ code st, code p = (op, x) → cz_step kn ice code (p, st) = some (p + 1, a :: st)) → (∀ s, mz_step kn ice (o2, y) s = some (ez_push false a s)) → ez_V kn ice false (ez_g 2 d) p [(op, x)] [(o2, y)] := by
    intro op x o2 y a ha h1 h2
    refine ⟨a, ha, fun code st hc hp hs => ?_, fun s => ?_⟩
    · have hp : p + 1 ≤ 320 := hp
      exact cz_one (by show p < 320; omega) (by show st.length < 96; omega) (h1 code st (cz_has_c hc).1) (by show p < p + 1; omega)
    · show (mz_step kn ice (o2, y) s).bind _ = _
      rw [h2]
      rfl
  unfold pz_one pz_open pz_want at h
  split at h
  · rename_i c1
    split at h
    · cases h
    cases h
    refine leaf _ _ _ _ (kn (t i - 10)) ?_ (fun code st hq => ?_) (fun s => rfl)
    · have := hkn (t i - 10) (by omega)
      simp only [ez_ok]
      simpa using this
    · unfold cz_step
      simp only [hq]
      rfl
  split at h
  · split at h
    · cases h
    rename_i hv
    cases h
    refine leaf _ _ _ _ (v i : Int) ?_ (fun code st hq => ?_) (fun s => rfl)
    · simp only [ez_ok]
      simp
      omega
    · unfold cz_step
      simp only [hq]
      rfl
  split at h
  · split at h
    · cases h
    rename_i h8
    rcases pz_bind_e h with ⟨e, -, h3⟩ | ⟨j1, c1, m1, h1, h⟩
    · cases h3
    split at h
    case isFalse => cases h
    cases h
    exact ez_V_le (h0 _ _ _ _ _ _ h1 (by omega)) (by have := ez_g_s 0 d h8; unfold ez_g at *; simp at *; omega)
  split at h
  · split at h
    · cases h
    rename_i h8
    rcases pz_bind_e h with ⟨e, -, h3⟩ | ⟨j1, c1, m1, h1, h⟩
    · cases h3
    cases h
    refine ez_V_le (ez_un (f := fun a => -a) (h2 _ _ _ _ _ _ h1 (by omega)) (by unfold ez_g; simp <;> omega) (fun a ha => ⟨ez_neg ha, fun s => rfl, fun code q st hq => ?_⟩)) (by have := ez_g_s 2 d h8; omega)
    unfold cz_step
    simp only [hq]
    rfl
  split at h
  · split at h
    · cases h
    rename_i h8
    rcases pz_bind_e h with ⟨e, -, h3⟩ | ⟨j1, c1, m1, h1, h⟩
    · cases h3
    split at h
    case isFalse => cases h
    rcases pz_bind_e h with ⟨e, -, h3⟩ | ⟨j2, c2, m2, h3, h⟩
    · cases h3
    cases h
    obtain ⟨k1, k2⟩ := ez_gD (kn := kn) (ice := ice) 29 4 rfl
    exact ez_join (h2 _ _ _ _ _ _ h1 (by omega)) (h2 _ _ _ _ _ _ h3 (by omega)) (by have := ez_g_s 2 d h8; omega) (by unfold ez_g; simp <;> omega) k2 k1
  split at h
  · split at h
    · cases h
    rename_i h8
    rcases pz_bind_e h with ⟨e, -, h3⟩ | ⟨j1, c1, m1, h1, h⟩
    · cases h3
    cases h
    refine ez_V_le (ez_un (f := fun a => ez_b (ice a)) (h2 _ _ _ _ _ _ h1 (by omega)) (by unfold ez_g; simp <;> omega) (fun a ha => ⟨?_, fun s => rfl, fun code q st hq => ?_⟩)) (by have := ez_g_s 2 d h8; omega)
    · unfold ez_b ez_ok
      rw [if_neg (by decide)]
      split <;> omega
    · unfold cz_step
      simp only [hq]
      rfl
  split at h
  · split at h
    · cases h
    rename_i h8
    exact ez_V_le (h3 _ _ _ _ _ _ h (by omega)) (by unfold ez_g; simp <;> omega)
  · cases h
theorem ez_all (hkn : ∀ j, j < 9 → -1000000 ≤ kn j ∧ kn j ≤ 1000000) : ∀ n, ez_W kn ice t v lk n 2 false ∧ ez_W kn ice t v lk n 3 false ∧ ez_W kn ice t v lk n 1 false ∧ ez_W kn ice t v lk n 0 false ∧ ez_W kn ice t v lk n 6 true ∧ ez_W kn ice t v lk n 5 true ∧ ez_W kn ice t v lk n 4 true ∧ ez_T kn ice t v lk n 8 1 false ∧ ez_T kn ice t v lk n 7 0 false ∧ ez_T kn ice t v lk n 10 5 true ∧ ez_T kn ice t v lk n 9 4 true := by
  intro n
  induction n with
  | zero => exact ⟨fun _ _ _ _ _ _ h => (by cases h), fun _ _ _ _ _ _ h => (by cases h), fun _ _ _ _ _ _ h => (by cases h), fun _ _ _ _ _ _ h => (by cases h), fun _ _ _ _ _ _ h => (by cases h), fun _ _ _ _ _ _ h => (by cases h), fun _ _ _ _ _ _ h => (by cases h), fun _ _ _ _ _ _ h => (by cases h), fun _ _ _ _ _ _ h => (by cases h), fun _ _ _ _ _ _ h => (by cases h), fun _ _ _ _ _ _ h => (by cases h)⟩
  | succ n ih =>
    obtain ⟨h2, h3, h1, h0, h6, h5, h4, t8, t7, t10, t9⟩ := ih
    refine ⟨ez_one hkn h0 h2 h3, ez_choice h4 h0, fun d i p j c m h hd => ez_two h2 t8 (fun d => ?_) h hd, fun d i p j c m h hd => ez_two h1 t7 (fun d => ?_) h hd, ez_ask h0 h6, fun d i p j c m h hd => ez_two h6 t10 (fun d => ?_) h hd, fun d i p j c m h hd => ez_two h5 t9 (fun d => ?_) h hd,
      fun d i p j c m h hd => ez_more ez_gP h2 t8 (fun d => ?_) h hd, fun d i p j c m h hd => ez_more ez_gS h1 t7 (fun d => ?_) h hd, fun d i p j c m h hd => ez_more ez_gB h6 t10 (fun d => ?_) h hd, fun d i p j c m h hd => ez_more ez_gE h5 t9 (fun d => ?_) h hd⟩
    all_goals (unfold ez_g; simp; try omega)
/-- a SUM as it was read: one number for both -/
theorem ez_sum (hkn : ∀ j, j < 9 → -1000000 ≤ kn j ∧ kn j ≤ 1000000) {n i p j : Nat} {c m : pz_C} (h : pz_P t v lk n 0 0 i p = some (.inr (j, c, m))) (hp : p + c.length ≤ 320) : ∃ x, -1000000 ≤ x ∧ x ≤ 1000000 ∧ (∀ code, cz_has code p c → cz_to kn ice code (p, []) (p + c.length, [x])) ∧ mz_run kn ice m ([], []) = some ([x], []) := by
  obtain ⟨x, x1, x2, x3⟩ := (ez_all (t := t) (v := v) (lk := lk) (ice := ice) hkn n).2.2.2.1 0 i p j c m h (by omega)
  have x1 : -1000000 ≤ x ∧ x ≤ 1000000 := by simpa [ez_ok] using x1
  exact ⟨x, x1.1, x1.2, fun code hc => x2 code [] hc hp (by unfold ez_g; simp), x3 ([], [])⟩
end EZ2
