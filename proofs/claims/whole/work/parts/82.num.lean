/-! ===== long numbers by what they are ===== -/
theorem tl_add {a b : Int64} (h1 : -9000000000000000000 ≤ a.toInt + b.toInt) (h2 : a.toInt + b.toInt ≤ 9000000000000000000) : (a + b).toInt = a.toInt + b.toInt := by
  rw [Int64.toInt_add]
  exact Int.bmod_eq_of_le (by omega) (by omega)
theorem tl_sub {a b : Int64} (h1 : -9000000000000000000 ≤ a.toInt - b.toInt) (h2 : a.toInt - b.toInt ≤ 9000000000000000000) : (a - b).toInt = a.toInt - b.toInt := by
  rw [Int64.toInt_sub]
  exact Int.bmod_eq_of_le (by omega) (by omega)
theorem tl_mul {a b : Int64} (h1 : -9000000000000000000 ≤ a.toInt * b.toInt) (h2 : a.toInt * b.toInt ≤ 9000000000000000000) : (a * b).toInt = a.toInt * b.toInt := by
  rw [Int64.toInt_mul]
  exact Int.bmod_eq_of_le (by omega) (by omega)
theorem tl_neg {a : Int64} (h : -9000000000000000000 ≤ a.toInt ∧ a.toInt ≤ 9000000000000000000) : (-a).toInt = -a.toInt := by
  rw [Int64.toInt_neg]
  exact Int.bmod_eq_of_le (by omega) (by omega)
theorem ti_neg {a : Int32} (h : -2147483647 ≤ a.toInt) : (-a).toInt = -a.toInt := by
  rw [Int32.toInt_neg]
  have := a.toInt_lt
  exact Int.bmod_eq_of_le (by omega) (by omega)
theorem il (a : Int32) : a.toInt64.toInt = a.toInt := Int32.toInt_toInt64 a
theorem lt_L {a b : Int64} : a < b ↔ a.toInt < b.toInt := Int64.lt_iff_toInt_lt
theorem le_L {a b : Int64} : a ≤ b ↔ a.toInt ≤ b.toInt := Int64.le_iff_toInt_le
theorem eq_L {a b : Int64} : a = b ↔ a.toInt = b.toInt := Int64.toInt_inj.symm
theorem li {a : Int64} (h1 : -2147483648 ≤ a.toInt) (h2 : a.toInt ≤ 2147483647) : a.toInt32.toInt = a.toInt := by
  rw [Int64.toInt_toInt32]
  exact Int.bmod_eq_of_le (by omega) (by omega)
theorem lc_ge {x y : Int64} : (0 : Int32) ≤ lg_cmp x y ↔ y.toInt ≤ x.toInt := by
  unfold lg_cmp
  simp only [gt_iff_lt, lt_L, eq_L]
  split
  · exact ⟨fun _ => by omega, fun _ => by decide⟩
  · split
    · exact ⟨fun _ => by omega, fun _ => by decide⟩
    · exact ⟨fun h => absurd h (by decide), fun h => by omega⟩
theorem lc_le {x y : Int64} : lg_cmp x y ≤ (0 : Int32) ↔ x.toInt ≤ y.toInt := by
  unfold lg_cmp
  simp only [gt_iff_lt, lt_L, eq_L]
  split
  · exact ⟨fun h => absurd h (by decide), fun h => by omega⟩
  · split
    · exact ⟨fun _ => by omega, fun _ => by decide⟩
    · exact ⟨fun _ => by omega, fun _ => by decide⟩
theorem lc_eq {x y : Int64} : lg_cmp x y = (0 : Int32) ↔ x.toInt = y.toInt := by
  unfold lg_cmp
  simp only [gt_iff_lt, lt_L, eq_L]
  split
  · exact ⟨fun h => absurd h (by decide), fun h => by omega⟩
  · split
    · exact ⟨fun _ => by omega, fun _ => rfl⟩
    · exact ⟨fun h => absurd h (by decide), fun h => by omega⟩
theorem lc_lt {x y : Int64} : lg_cmp x y < (0 : Int32) ↔ x.toInt < y.toInt := by
  rw [← Int32.not_le, lc_ge]; omega
theorem lc_gt {x y : Int64} : (0 : Int32) < lg_cmp x y ↔ y.toInt < x.toInt := by
  rw [← Int32.not_le, lc_le]; omega
/-- cut to bounds -/
def ez_cut (x l h : Int) : Int := if x < l then l else if h < x then h else x
theorem q_within {w : Int64} {l h : Int32} (hlh : l.toInt ≤ h.toInt) : (fX2_within w l h).toInt = ez_cut w.toInt l.toInt h.toInt := by
  unfold fX2_within jmaxl jminl ez_cut
  have h1 := l.le_toInt
  have h2 := l.toInt_lt
  have h3 := h.le_toInt
  have h4 := h.toInt_lt
  simp only [lt_L, il]
  by_cases c1 : w.toInt < h.toInt
  · simp only [if_pos c1]
    by_cases c2 : w.toInt < l.toInt
    · simp only [if_pos c2]
      rw [li (by rw [il]; omega) (by rw [il]; omega), il]
    · simp only [if_neg c2]
      rw [li (by omega) (by omega), if_neg (by omega)]
  · simp only [if_neg c1, il]
    rw [if_neg (by omega), li (by rw [il]; omega) (by rw [il]; omega), il, if_neg (by omega)]
    split <;> omega
theorem q_cut {w : Int64} {l h : Int32} (hlh : l.toInt ≤ h.toInt) : (fX12_cut w l h).toInt = ez_cut w.toInt l.toInt h.toInt := by
  unfold fX12_cut ez_cut
  have h1 := l.le_toInt
  have h2 := l.toInt_lt
  have h3 := h.le_toInt
  have h4 := h.toInt_lt
  simp only [lc_ge, lc_le, il]
  by_cases c1 : l.toInt ≤ w.toInt
  · have d1 : ¬ w.toInt < l.toInt := by omega
    by_cases c2 : w.toInt ≤ h.toInt
    · have d2 : ¬ h.toInt < w.toInt := by omega
      rw [if_pos c1, if_pos c2, if_neg d1, if_neg d2, li (by omega) (by omega)]
    · have d2 : h.toInt < w.toInt := by omega
      rw [if_pos c1, if_neg c2, if_neg d1, if_pos d2]
  · have d1 : w.toInt < l.toInt := by omega
    rw [if_neg c1, if_pos d1]
theorem q_clip (w : Int64) : (fX12_clip w).toInt = ez_clip w.toInt := by
  unfold fX12_clip ez_clip
  simp only [lc_ge, lc_le, show (1000000 : Int64).toInt = 1000000 from rfl, show (-1000000 : Int64).toInt = -1000000 from rfl]
  by_cases c1 : w.toInt ≤ 1000000
  · have d1 : ¬ 1000000 < w.toInt := by omega
    by_cases c2 : -1000000 ≤ w.toInt
    · have d2 : ¬ w.toInt < -1000000 := by omega
      rw [if_pos c1, if_pos c2, if_neg d1, if_neg d2]
    · have d2 : w.toInt < -1000000 := by omega
      rw [if_pos c1, if_neg c2, if_neg d1, if_pos d2]; rfl
  · have d1 : 1000000 < w.toInt := by omega
    rw [if_neg c1, if_pos d1]; rfl
theorem ez_cut_clip (x : Int) : ez_cut x (-1000000) 1000000 = ez_clip x := by
  unfold ez_cut ez_clip
  split
  · rw [if_neg (by omega)]
  · rfl
theorem ez_clip_b (x : Int) : -1000000 ≤ ez_clip x ∧ ez_clip x ≤ 1000000 := by
  unfold ez_clip
  split
  · omega
  · split <;> omega
theorem ez_clip_id {x : Int} (h : -1000000 ≤ x ∧ x ≤ 1000000) : ez_clip x = x := by
  unfold ez_clip
  rw [if_neg (by omega), if_neg (by omega)]
theorem ez_mulb {a b : Int} (ha : -1000320 ≤ a ∧ a ≤ 1000320) (hb : -1000320 ≤ b ∧ b ≤ 1000320) : -9000000000000 ≤ a * b ∧ a * b ≤ 9000000000000 := by
  have h : (a * b).natAbs ≤ 1000320 * 1000320 := by
    rw [Int.natAbs_mul]
    exact Nat.mul_le_mul (by omega) (by omega)
  omega
theorem ti_ofInt (x : Int32) : Int32.ofInt x.toInt = x := Int32.ofInt_toInt x
theorem ez_v26 (a b : Int) : ez_w 26 a b = ez_clip (Int32.ofInt a ||| Int32.ofInt b).toInt := by unfold ez_w; rw [if_neg (by decide), if_neg (by decide), if_neg (by decide), if_neg (by decide), if_neg (by decide), if_neg (by decide), if_pos rfl]
theorem ez_v27 (a b : Int) : ez_w 27 a b = ez_clip (Int32.ofInt a &&& Int32.ofInt b).toInt := by unfold ez_w; rw [if_neg (by decide), if_neg (by decide), if_neg (by decide), if_neg (by decide), if_neg (by decide), if_pos rfl]
theorem ez_v29 (a b : Int) : ez_w 29 a b = ez_dig a b := by unfold ez_w; rw [if_neg (by decide), if_neg (by decide), if_neg (by decide), if_neg (by decide), if_pos rfl]
theorem ez_v40 (a b : Int) : ez_w 40 a b = ez_b (decide (a < b)) := by unfold ez_w; rw [if_neg (by decide), if_neg (by decide), if_neg (by decide), if_neg (by decide), if_neg (by decide), if_neg (by decide), if_neg (by decide), if_pos rfl]
theorem ez_v41 (a b : Int) : ez_w 41 a b = ez_b (decide (b < a)) := by unfold ez_w; rw [if_neg (by decide), if_neg (by decide), if_neg (by decide), if_neg (by decide), if_neg (by decide), if_neg (by decide), if_neg (by decide), if_neg (by decide), if_pos rfl]
theorem ez_v42 (a b : Int) : ez_w 42 a b = ez_b (decide (a = b)) := by unfold ez_w; rw [if_neg (by decide), if_neg (by decide), if_neg (by decide), if_neg (by decide), if_neg (by decide), if_neg (by decide), if_neg (by decide), if_neg (by decide), if_neg (by decide), if_pos rfl]
theorem ez_v43 (a b : Int) : ez_w 43 a b = ez_b (decide (a ≠ b)) := by unfold ez_w; rw [if_neg (by decide), if_neg (by decide), if_neg (by decide), if_neg (by decide), if_neg (by decide), if_neg (by decide), if_neg (by decide), if_neg (by decide), if_neg (by decide), if_neg (by decide), if_pos rfl]
theorem ez_v51 (a b : Int) : ez_w 51 a b = ez_b (decide (a ≤ b)) := by unfold ez_w; rw [if_neg (by decide), if_neg (by decide), if_neg (by decide), if_neg (by decide), if_neg (by decide), if_neg (by decide), if_neg (by decide), if_neg (by decide), if_neg (by decide), if_neg (by decide), if_neg (by decide), if_pos rfl]
theorem ez_vx {op : Nat} (a b : Int) (h : op ≠ 44 ∧ op ≠ 45 ∧ op ≠ 46 ∧ op ≠ 47 ∧ op ≠ 29 ∧ op ≠ 27 ∧ op ≠ 26 ∧ op ≠ 40 ∧ op ≠ 41 ∧ op ≠ 42 ∧ op ≠ 43 ∧ op ≠ 51) : ez_w op a b = ez_b (decide (b ≤ a)) := by
  unfold ez_w
  rw [if_neg h.1, if_neg h.2.1, if_neg h.2.2.1, if_neg h.2.2.2.1, if_neg h.2.2.2.2.1, if_neg h.2.2.2.2.2.1, if_neg h.2.2.2.2.2.2.1, if_neg h.2.2.2.2.2.2.2.1, if_neg h.2.2.2.2.2.2.2.2.1, if_neg h.2.2.2.2.2.2.2.2.2.1, if_neg h.2.2.2.2.2.2.2.2.2.2.1, if_neg h.2.2.2.2.2.2.2.2.2.2.2]
theorem ez_bclip (b : Bool) : ez_clip (ez_b b) = ez_b b := by cases b <;> decide
theorem ez_dclip (a b : Int) : ez_clip (ez_dig a b) = ez_dig a b := by
  refine ez_clip_id ?_
  unfold ez_dig
  split
  · omega
  · have := Nat.mod_lt (b.natAbs / 10 ^ a.toNat) (show 0 < 10 by decide)
    omega
theorem q_tens : ∀ n, n < 7 → go_tn (nI n) = nI (10 ^ n) := by decide +kernel
/-- a figure of a number -/
theorem q_dig {n : Nat} {y : Int32} (hn : n < 7) (hy : -1000320 ≤ y.toInt ∧ y.toInt ≤ 1000320) : (jrem (jabs y / go_tn (nI n)) 10).toInt64.toInt = ez_dig (n : Int) y.toInt := by
  have hp : 10 ^ n ≤ 10 ^ 6 := Nat.pow_le_pow_right (by decide) (by omega)
  have hb : jabs y = nI y.toInt.natAbs := by
    unfold jabs
    have h0 : (0 : Int32) ≤ y ↔ 0 ≤ y.toInt := i_le
    by_cases h : 0 ≤ y.toInt
    · rw [if_pos (h0.mpr h)]
      refine i_eq.mpr ?_
      rw [ti_n (by omega)]; omega
    · rw [if_neg (fun q => h (h0.mp q))]
      refine i_eq.mpr ?_
      rw [ti_n (by omega), ti_sub (by show _ ≤ (0 : Int) - _; omega) (by show (0 : Int) - _ ≤ _; omega)]
      show (0 : Int) - _ = _
      omega
  rw [il, hb, q_tens n hn, nI_divI (by omega) (by omega), rem_l (n := 10) (by have := Nat.div_le_self y.toInt.natAbs (10 ^ n); omega) (by omega)]
  have := Nat.mod_lt (y.toInt.natAbs / 10 ^ n) (show 0 < 10 by decide)
  rw [ti_n (by omega)]
  unfold ez_dig
  rw [if_neg (by omega), Int.toNat_natCast]
/-- two numbers by a token: what the class works out -/
theorem q_work {μ : PM} {op : Nat} {x y : Int32} (hop : op < 64) (hx : -1000320 ≤ x.toInt ∧ x.toInt ≤ 1000320) (hy : -1000320 ≤ y.toInt ∧ y.toInt ≤ 1000320) : ∃ w, fX2_work μ (nI op) x y = some w ∧ ez_clip w.toInt = ez_w op x.toInt y.toInt := by
  have ne : ∀ k, k < 64 → k ≠ op → ¬ nI op = (OfNat.ofNat k : Int32) := fun k hk h q => h (((eq_l (n := k) (by omega) (by omega)).mp q).symm)
  have cmp : ∀ {p : Prop} [Decidable p] {b : Bool}, (p ↔ b = false) → ∃ w, (if p then some (0 : Int64) else some 1) = some w ∧ ez_clip w.toInt = ez_b b := fun {p _ b} h => by
    cases b with
    | false => exact ⟨0, if_pos (h.mpr rfl), by decide⟩
    | true => exact ⟨1, if_neg (fun q => absurd (h.mp q) (by decide)), by decide⟩
  have m := ez_mulb hx hy
  by_cases c26 : op = 26
  · subst c26
    refine ⟨(x ||| y).toInt64, rfl, ?_⟩
    rw [il, ez_v26, ti_ofInt, ti_ofInt]
  by_cases c27 : op = 27
  · subst c27
    refine ⟨(x &&& y).toInt64, rfl, ?_⟩
    rw [il, ez_v27, ti_ofInt, ti_ofInt]
  by_cases c29 : op = 29
  · subst c29
    show ∃ w, (if x < 0 then some (0 : Int64) else (if x < 7 then go_chk x 7 <| go_nz (go_tn x) <| some (((jrem ((jabs y) / (go_tn x)) 10) : Int32).toInt64) else some (0))) = some w ∧ _
    rw [ez_v29, ← ez_dclip]
    simp only [i_lt, show (0 : Int32).toInt = 0 from rfl, show (7 : Int32).toInt = 7 from rfl]
    by_cases h0 : x.toInt < 0
    · rw [if_pos h0]
      refine ⟨0, rfl, ?_⟩
      unfold ez_dig
      rw [if_pos (Or.inl h0)]
      rfl
    by_cases h7 : x.toInt < 7
    · rw [if_neg h0, if_pos h7]
      obtain ⟨n, rfl, hn, hn2⟩ := nz_of (v := x) (k := 7) (by omega) h7
      have hp : 1 ≤ 10 ^ n := Nat.one_le_pow _ _ (by decide)
      have hp2 : 10 ^ n ≤ 10 ^ 6 := Nat.pow_le_pow_right (by decide) (by omega)
      rw [chk_n (by omega) (by omega)]
      unfold go_nz
      rw [if_neg (by rw [q_tens n (by omega), eq_l (n := 0) (by omega) (by omega)]; omega)]
      exact ⟨_, rfl, by rw [q_dig (by omega) hy, hn2]⟩
    · rw [if_neg h0, if_neg h7]
      refine ⟨0, rfl, ?_⟩
      unfold ez_dig
      rw [if_pos (by omega)]
      rfl
  by_cases c40 : op = 40
  · subst c40
    show ∃ w, (if y ≤ x then some (0 : Int64) else some 1) = some w ∧ _
    rw [ez_v40]
    exact cmp (by rw [i_le, decide_eq_false_iff_not]; omega)
  by_cases c41 : op = 41
  · subst c41
    show ∃ w, (if x ≤ y then some (0 : Int64) else some 1) = some w ∧ _
    rw [ez_v41]
    exact cmp (by rw [i_le, decide_eq_false_iff_not]; omega)
  by_cases c42 : op = 42
  · subst c42
    show ∃ w, (if x = y then some (1 : Int64) else some 0) = some w ∧ _
    rw [ez_v42]
    by_cases e : x = y
    · rw [if_pos e, e]
      exact ⟨1, rfl, by simp [ez_b]; decide⟩
    · rw [if_neg e, decide_eq_false (fun q => e (i_eq.mpr q))]
      exact ⟨0, rfl, by decide⟩
  by_cases c43 : op = 43
  · subst c43
    show ∃ w, (if x = y then some (0 : Int64) else some 1) = some w ∧ _
    rw [ez_v43]
    exact cmp (by rw [i_eq, decide_eq_false_iff_not]; omega)
  by_cases c44 : op = 44
  · subst c44
    refine ⟨x.toInt64 + y.toInt64, rfl, ?_⟩
    rw [tl_add (by rw [il, il]; omega) (by rw [il, il]; omega), il, il, ez_w44]
  by_cases c45 : op = 45
  · subst c45
    refine ⟨x.toInt64 - y.toInt64, rfl, ?_⟩
    rw [tl_sub (by rw [il, il]; omega) (by rw [il, il]; omega), il, il, ez_w45]
  by_cases c46 : op = 46
  · subst c46
    refine ⟨x.toInt64 * y.toInt64, rfl, ?_⟩
    rw [tl_mul (by rw [il, il]; omega) (by rw [il, il]; omega), il, il, ez_w46]
  by_cases c47 : op = 47
  · subst c47
    show ∃ w, (if y = 0 then some (0 : Int64) else go_nz y <| some (((x / y) : Int32).toInt64)) = some w ∧ _
    rw [ez_w47]
    unfold go_nz
    by_cases e : y = 0
    · rw [if_pos e, if_pos (by rw [e]; rfl)]
      exact ⟨0, rfl, by decide⟩
    · have e2 : ¬ y.toInt = 0 := fun q => e (i_eq.mpr q)
      rw [if_neg e, if_neg e, if_neg e2]
      refine ⟨_, rfl, ?_⟩
      rw [il, Int32.toInt_div]
      have hd : (x.toInt.tdiv y.toInt).natAbs ≤ x.toInt.natAbs := by
        rw [Int.natAbs_tdiv]
        exact Nat.div_le_self _ _
      rw [Int.bmod_eq_of_le (by omega) (by omega)]
  by_cases c51 : op = 51
  · subst c51
    show ∃ w, (if y < x then some (0 : Int64) else some 1) = some w ∧ _
    rw [ez_v51]
    exact cmp (by rw [i_lt, decide_eq_false_iff_not]; omega)
  rw [ez_vx _ _ ⟨c44, c45, c46, c47, c29, c27, c26, c40, c41, c42, c43, c51⟩]
  have rest : fX2_work μ (nI op) x y = if x < y then some 0 else some 1 := by
    unfold fX2_work
    rw [if_neg (ne 26 (by omega) (Ne.symm c26)), if_neg (ne 27 (by omega) (Ne.symm c27))]
    by_cases d : op = 28
    · rw [if_pos (by rw [d]; rfl)]
    rw [if_neg (ne 28 (by omega) (Ne.symm d)), if_neg (ne 29 (by omega) (Ne.symm c29))]
    by_cases d : op = 30
    · rw [if_pos (by rw [d]; rfl)]
    rw [if_neg (ne 30 (by omega) (Ne.symm d))]
    by_cases d : op = 31
    · rw [if_pos (by rw [d]; rfl)]
    rw [if_neg (ne 31 (by omega) (Ne.symm d))]
    by_cases d : op = 32
    · rw [if_pos (by rw [d]; rfl)]
    rw [if_neg (ne 32 (by omega) (Ne.symm d))]
    by_cases d : op = 33
    · rw [if_pos (by rw [d]; rfl)]
    rw [if_neg (ne 33 (by omega) (Ne.symm d))]
    by_cases d : op = 34
    · rw [if_pos (by rw [d]; rfl)]
    rw [if_neg (ne 34 (by omega) (Ne.symm d))]
    by_cases d : op = 35
    · rw [if_pos (by rw [d]; rfl)]
    rw [if_neg (ne 35 (by omega) (Ne.symm d))]
    by_cases d : op = 36
    · rw [if_pos (by rw [d]; rfl)]
    rw [if_neg (ne 36 (by omega) (Ne.symm d))]
    by_cases d : op = 37
    · rw [if_pos (by rw [d]; rfl)]
    rw [if_neg (ne 37 (by omega) (Ne.symm d))]
    by_cases d : op = 38
    · rw [if_pos (by rw [d]; rfl)]
    rw [if_neg (ne 38 (by omega) (Ne.symm d))]
    by_cases d : op = 39
    · rw [if_pos (by rw [d]; rfl)]
    rw [if_neg (ne 39 (by omega) (Ne.symm d)), if_neg (ne 40 (by omega) (Ne.symm c40)), if_neg (ne 41 (by omega) (Ne.symm c41)), if_neg (ne 42 (by omega) (Ne.symm c42)), if_neg (ne 43 (by omega) (Ne.symm c43)), if_neg (ne 44 (by omega) (Ne.symm c44)), if_neg (ne 45 (by omega) (Ne.symm c45)), if_neg (ne 46 (by omega) (Ne.symm c46)), if_neg (ne 47 (by omega) (Ne.symm c47))]
    by_cases d : op = 48
    · rw [if_pos (by rw [d]; rfl)]
    rw [if_neg (ne 48 (by omega) (Ne.symm d))]
    by_cases d : op = 49
    · rw [if_pos (by rw [d]; rfl)]
    rw [if_neg (ne 49 (by omega) (Ne.symm d))]
    by_cases d : op = 50
    · rw [if_pos (by rw [d]; rfl)]
    rw [if_neg (ne 50 (by omega) (Ne.symm d)), if_neg (ne 51 (by omega) (Ne.symm c51))]
  rw [rest]
  exact cmp (by rw [i_lt, decide_eq_false_iff_not]; omega)
