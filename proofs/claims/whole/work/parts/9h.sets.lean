/-! ===== sets, one after another; how many; products ===== -/
theorem an_half (A B : Nat) : (A &&& B) / 2 = A / 2 &&& B / 2 := Nat.and_div_two
theorem an_odd (A B : Nat) : (A &&& B) % 2 = 1 ↔ A % 2 = 1 ∧ B % 2 = 1 := Nat.and_mod_two_eq_one
theorem nx_keep : ∀ n R z, R < 2 ^ n → z &&& R = z → (z + (2 ^ n - 1 - R)) &&& R = z := by
  intro n
  induction n with
  | zero =>
    intro R z h1 h2
    have : R = 0 := by rw [Nat.pow_zero] at h1; omega
    subst this
    rw [Nat.and_zero] at h2 ⊢
    exact h2
  | succ n ih =>
    intro R z h1 h2
    rw [Nat.pow_succ] at h1 ⊢
    have k1 := an_half z R
    rw [h2] at k1
    have k2 := an_odd z R
    rw [h2] at k2
    have k3 := ih (R / 2) (z / 2) (by omega) k1.symm
    have e : (z + (2 ^ n * 2 - 1 - R)) / 2 = z / 2 + (2 ^ n - 1 - R / 2) := by omega
    have k4 := an_half (z + (2 ^ n * 2 - 1 - R)) R
    rw [e, k3] at k4
    have k5 := an_odd (z + (2 ^ n * 2 - 1 - R)) R
    generalize (z + (2 ^ n * 2 - 1 - R)) &&& R = X at k4 k5 ⊢
    have m1 := Nat.mod_two_eq_zero_or_one z
    have m2 := Nat.mod_two_eq_zero_or_one R
    rcases m1 with m1 | m1 <;> rcases m2 with m2 | m2 <;> omega
theorem nx_step : ∀ n R z s, R < 2 ^ n → z &&& R = z → s &&& R = s → z < s → z < (z + 2 ^ n - R) &&& R ∧ (z + 2 ^ n - R) &&& R ≤ s := by
  intro n
  induction n with
  | zero =>
    intro R z s h1 h2 h3 h4
    have : R = 0 := by rw [Nat.pow_zero] at h1; omega
    subst this
    rw [Nat.and_zero] at h3
    omega
  | succ n ih =>
    intro R z s h1 h2 h3 h4
    rw [Nat.pow_succ] at h1 ⊢
    have k1 := an_half z R
    rw [h2] at k1
    have k2 := an_odd z R
    rw [h2] at k2
    have j1 := an_half s R
    rw [h3] at j1
    have j2 := an_odd s R
    rw [h3] at j2
    have k4 := an_half (z + 2 ^ n * 2 - R) R
    have k5 := an_odd (z + 2 ^ n * 2 - R) R
    by_cases c : R % 2 = 1 ∧ z % 2 = 0
    · have e : (z + 2 ^ n * 2 - R) / 2 = z / 2 + (2 ^ n - 1 - R / 2) := by omega
      rw [e, nx_keep n (R / 2) (z / 2) (by omega) k1.symm] at k4
      generalize hX : (z + 2 ^ n * 2 - R) &&& R = X at k4 k5 ⊢
      have : X % 2 = 1 := k5.mpr (by omega)
      omega
    · have e : (z + 2 ^ n * 2 - R) / 2 = z / 2 + 2 ^ n - R / 2 := by omega
      have hlt : z / 2 < s / 2 := by omega
      have k6 := ih (R / 2) (z / 2) (s / 2) (by omega) k1.symm j1.symm hlt
      rw [e] at k4
      generalize (z / 2 + 2 ^ n - R / 2) &&& R / 2 = Y at k4 k6
      generalize hX : (z + 2 ^ n * 2 - R) &&& R = X at k4 k5 ⊢
      have : X % 2 = 0 := by
        have hz : ¬ X % 2 = 1 := fun q => by
          have := k5.mp q
          omega
        omega
      omega
/-- how many, and the product of them -/
def wz_cnt (p : Nat → Bool) : Nat → Nat
  | 0 => 0
  | n + 1 => if p n = true then wz_cnt p n + 1 else wz_cnt p n
def wz_pr (a : Nat → Nat) (p : Nat → Bool) : Nat → Nat
  | 0 => 1
  | n + 1 => if p n = true then wz_pr a p n * a n else wz_pr a p n
def wz_rp (a : Nat → Nat) (w p : Nat → Bool) : Nat → Nat
  | 0 => 1
  | n + 1 => if w n = true then wz_rp a w p n * (if p n = true then a n else 10) else wz_rp a w p n
theorem wz_cnt_eq {p q : Nat → Bool} : ∀ n, (∀ c, c < n → p c = q c) → wz_cnt p n = wz_cnt q n := by
  intro n
  induction n with
  | zero => intro _; rfl
  | succ n ih =>
    intro h
    unfold wz_cnt
    rw [h n (by omega), ih (fun c hc => h c (by omega))]
theorem wz_pr_eq {a : Nat → Nat} {p q : Nat → Bool} : ∀ n, (∀ c, c < n → p c = q c) → wz_pr a p n = wz_pr a q n := by
  intro n
  induction n with
  | zero => intro _; rfl
  | succ n ih =>
    intro h
    unfold wz_pr
    rw [h n (by omega), ih (fun c hc => h c (by omega))]
theorem wz_cnt_le {p q : Nat → Bool} : ∀ n, (∀ c, c < n → p c = true → q c = true) → wz_cnt p n ≤ wz_cnt q n := by
  intro n
  induction n with
  | zero => intro _; exact Nat.le_refl _
  | succ n ih =>
    intro h
    have k := ih (fun c hc => h c (by omega))
    unfold wz_cnt
    by_cases hp : p n = true
    · rw [if_pos hp, if_pos (h n (by omega) hp)]
      omega
    · rw [if_neg hp]
      split <;> omega
theorem wz_cnt_same {p q : Nat → Bool} : ∀ n, (∀ c, c < n → p c = true → q c = true) → wz_cnt q n ≤ wz_cnt p n → ∀ c, c < n → p c = q c := by
  intro n
  induction n with
  | zero => intro _ _ c hc; omega
  | succ n ih =>
    intro h h2 c hc
    have k := wz_cnt_le n (fun c hc => h c (by omega))
    unfold wz_cnt at h2
    by_cases hp : p n = true
    · have hq := h n (by omega) hp
      rw [if_pos hp, if_pos hq] at h2
      by_cases e : c = n
      · rw [e, hp, hq]
      · exact ih (fun c hc => h c (by omega)) (by omega) c (by omega)
    · rw [if_neg hp] at h2
      by_cases hq : q n = true
      · rw [if_pos hq] at h2
        omega
      · rw [if_neg hq] at h2
        by_cases e : c = n
        · rw [e, Bool.eq_false_iff.mpr hp, Bool.eq_false_iff.mpr hq]
        · exact ih (fun c hc => h c (by omega)) (by omega) c (by omega)
theorem wz_pr_le {a : Nat → Nat} {p : Nat → Bool} (ha : ∀ c, c < 10 → a c ≤ 10) : ∀ n, n ≤ 10 → wz_pr a p n ≤ 10 ^ n := by
  intro n
  induction n with
  | zero => intro _; exact Nat.le_refl _
  | succ n ih =>
    intro h
    have k := ih (by omega)
    unfold wz_pr
    rw [Nat.pow_succ]
    split
    · exact Nat.mul_le_mul k (ha n (by omega))
    · omega
theorem wz_rp_le {a : Nat → Nat} {w p : Nat → Bool} (ha : ∀ c, c < 10 → a c ≤ 10) : ∀ n, n ≤ 10 → wz_rp a w p n ≤ 10 ^ n := by
  intro n
  induction n with
  | zero => intro _; exact Nat.le_refl _
  | succ n ih =>
    intro h
    have k := ih (by omega)
    unfold wz_rp
    rw [Nat.pow_succ]
    split
    · refine Nat.mul_le_mul k ?_
      split
      · exact ha n (by omega)
      · omega
    · omega
theorem wz_rp_eq {a : Nat → Nat} {w p : Nat → Bool} : ∀ n, wz_rp a w p n = wz_pr a (fun c => w c && p c) n * 10 ^ wz_cnt (fun c => w c && !p c) n := by
  intro n
  induction n with
  | zero => rfl
  | succ n ih =>
    unfold wz_rp wz_pr wz_cnt
    rw [ih]
    cases hw : w n <;> cases hp : p n
    · rfl
    · rfl
    · show _ * 10 = _ * 10 ^ (_ + 1)
      rw [Nat.pow_succ, Nat.mul_assoc]
      rfl
    · show _ * a n = _ * a n * _
      rw [Nat.mul_right_comm]
      rfl
theorem wz_cnt_sp {w p : Nat → Bool} : ∀ n, wz_cnt w n = wz_cnt (fun c => w c && p c) n + wz_cnt (fun c => w c && !p c) n := by
  intro n
  induction n with
  | zero => rfl
  | succ n ih =>
    unfold wz_cnt
    rw [ih]
    cases hw : w n <;> cases hp : p n
    · rfl
    · rfl
    · exact Nat.add_assoc _ _ 1
    · exact Nat.add_right_comm _ _ 1
theorem wz_rp_off {a : Nat → Nat} {w p : Nat → Bool} {i : Nat} : ∀ d, (∀ c, i ≤ c → c < i + d → w c = false) → wz_rp a w p (i + d) = wz_rp a w p i := by
  intro d
  induction d with
  | zero => intro _; rfl
  | succ d ih =>
    intro h
    show wz_rp a w p (i + d + 1) = _
    unfold wz_rp
    rw [if_neg (by rw [h (i + d) (by omega) (by omega)]; decide), ih (fun c h1 h2 => h c h1 (by omega))]
    cases i <;> rfl
theorem wz_sel_off {p : Nat → Bool} {i : Nat} : ∀ d, (∀ c, i ≤ c → c < i + d → p c = false) → nb_sel p (i + d) = nb_sel p i := by
  intro d
  induction d with
  | zero => intro _; rfl
  | succ d ih =>
    intro h
    show nb_sel p (i + d + 1) = _
    unfold nb_sel
    rw [if_neg (by rw [h (i + d) (by omega) (by omega)]; decide), ih (fun c h1 h2 => h c h1 (by omega))]
    cases i <;> rfl
theorem wz_tb {p : Nat → Bool} : ∀ n c, (nb_sel p n).testBit c = (decide (c < n) && p c) := by
  intro n
  induction n with
  | zero => intro c; simp [nb_sel]
  | succ n ih =>
    intro c
    unfold nb_sel
    by_cases e : n = c
    · subst e
      by_cases hp : p n = true
      · rw [if_pos hp, Nat.testBit_or, Nat.testBit_two_pow, hp]
        simp
      · rw [if_neg hp, ih, Bool.eq_false_iff.mpr hp]
        simp
    · have d : decide (c < n + 1) = decide (c < n) := decide_eq_decide.mpr (by omega)
      rw [d]
      by_cases hp : p n = true
      · rw [if_pos hp, Nat.testBit_or, Nat.testBit_two_pow, ih]
        simp [e]
      · rw [if_neg hp, ih]
def wz_n (k : Nat) : Nat := wz_cnt (fun c => k.testBit c) 10
theorem wz_bc : ∀ k, k < 1024 → fJ6_bitCount_0f7a4 (nI k) = nI (wz_n k) ∧ wz_n k ≤ 10 := by decide +kernel
theorem wz_way : ∀ t, t < 10 → ∀ f, f ≤ t → wz_cnt (fun c => decide (f < c ∧ c ≤ t)) 10 = t - f := by decide
theorem wz_ones : ∀ c, c < 10 → Nat.testBit 4294967295 c = true := by decide
theorem wz_K {R S c : Nat} (hc : c < 10) : (R &&& (S ^^^ 4294967295)).testBit c = (R.testBit c && !S.testBit c) := by
  rw [Nat.testBit_and, Nat.testBit_xor, wz_ones c hc, Bool.xor_true]
theorem wz_sub {x y c : Nat} (h : x &&& y = x) (hx : x.testBit c = true) : y.testBit c = true := by
  rw [← h, Nat.testBit_and] at hx
  exact (Bool.and_eq_true_iff.mp hx).2
theorem wz_n_le {x y : Nat} (h : x &&& y = x) : wz_n x ≤ wz_n y := wz_cnt_le 10 (fun c _ q => wz_sub h q)
theorem wz_ext {x y : Nat} (hx : x < 1024) (hy : y < 1024) (h : ∀ c, c < 10 → x.testBit c = y.testBit c) : x = y := by
  refine Nat.eq_of_testBit_eq (fun i => ?_)
  by_cases hi : i < 10
  · exact h i hi
  · have e : 2 ^ 10 ≤ 2 ^ i := Nat.pow_le_pow_right (by decide) (by omega)
    rw [Nat.testBit_lt_two_pow (x := x) (i := i) (by omega), Nat.testBit_lt_two_pow (x := y) (i := i) (by omega)]
theorem wz_sub_eq {x y : Nat} (hx : x < 1024) (hy : y < 1024) (h : x &&& y = x) (hn : wz_n y ≤ wz_n x) : x = y :=
  wz_ext hx hy (wz_cnt_same 10 (fun c _ q => wz_sub h q) hn)
/-- the fewest, and of these the least -/
def BEST (ok : Nat → Prop) (M r : Nat) : Prop := r &&& M = r ∧ ok r ∧ ∀ s, s &&& M = s → ok s → wz_n r < wz_n s ∨ (wz_n r = wz_n s ∧ r ≤ s)
theorem best_eq {ok : Nat → Prop} {R W r r' : Nat} (hW : W < 1024) (hR : R &&& W = R) (hok : ∀ s, s &&& W = s → ok s → ok (s &&& R)) (h1 : BEST ok W r) (h2 : BEST ok R r') : r = r' := by
  have rW : r ≤ W := by rw [← h1.1]; exact Nat.and_le_right
  have a1 : (r &&& R) &&& R = r &&& R := by rw [Nat.and_assoc, Nat.and_self]
  have a2 : (r &&& R) &&& W = r &&& R := by rw [Nat.and_assoc, hR]
  have a3 : (r &&& R) &&& r = r &&& R := by rw [Nat.and_comm (r &&& R) r, ← Nat.and_assoc, Nat.and_self]
  have a4 : r &&& R ≤ r := Nat.and_le_left
  have b1 := h1.2.2 _ a2 (hok r h1.1 h1.2.1)
  have b2 := wz_n_le a3
  have b3 : r &&& R = r := wz_sub_eq (by omega) (by omega) a3 (by omega)
  have c1 := h2.2.2 r b3 h1.2.1
  have c2 : r' &&& W = r' := by
    have := h2.1
    rw [← this, Nat.and_assoc, hR]
  have c3 := h1.2.2 r' c2 h2.2.1
  omega
