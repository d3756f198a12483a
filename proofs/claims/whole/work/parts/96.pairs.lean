/-! ===== who would rather; the gladdest ===== -/
def gs_b (v : Nat → Nat → Int) (i x y : Nat) : Bool := decide (v i y < v i x) || (decide (v i x = v i y) && decide (x < y))
theorem gs_b_iff {v : Nat → Nat → Int} {i x y : Nat} : gs_b v i x y = true ↔ gs_p v i x y := by
  unfold gs_b gs_p
  simp only [Bool.or_eq_true, Bool.and_eq_true, decide_eq_true_eq]
def gs_o (v : Nat → Nat → Int) (i x : Nat) : Option Nat → Bool
  | none => true
  | some y => gs_b v i x y
def enc : Option Nat → Int32
  | none => -1
  | some n => nI n
def wz (a : Nat → Int32) (f n : Nat) : Int := (a (52 + (6 * f + n))).toInt
def fz (a : Nat → Int32) (n f : Nat) : Int := (a (82 + (5 * n + f))).toInt
section PW
variable {μc μm : PM} {a : Nat → Int32}
theorem q_wantC (hV : VF μc 1 a) {f n : Nat} (hf : f < 5) (hn : n < 6) : (μc.1 6 (f * 6 + n)).toInt = wz a f n := by
  rw [v1_want hV (by omega)]
  unfold wz
  rw [show 52 + (f * 6 + n) = 52 + (6 * f + n) by omega]
theorem q_favC (hV : VF μc 1 a) {f n : Nat} (hf : f < 5) (hn : n < 6) : (μc.1 7 (n * 5 + f)).toInt = fz a n f := by
  rw [v1_favour hV (by omega)]
  unfold fz
  rw [show 82 + (n * 5 + f) = 82 + (5 * n + f) by omega]
theorem q_could : ∀ f : Nat, f < 5 → ∀ n : Nat, n < 6 → fX11_couldLike (nI f) (nI n) 0 = 1 := by decide +kernel
theorem q_wantOfC {f n : Nat} (hf : f < 5) (hn : n < 6) : fX4_wantOf μc (nI f) (nI n) = some (μc.1 6 (f * 6 + n)) := by
  unfold fX4_wantOf
  rw [q_could f hf n hn, if_neg (by decide), mul_l 6, nI_add, chk_n (by omega) (by omega), cl_n (by omega)]
theorem q_favOfC {f n : Nat} (hf : f < 5) (hn : n < 6) : fX4_favourOf μc (nI n) (nI f) = some (μc.1 7 (n * 5 + f)) := by
  unfold fX4_favourOf
  rw [q_could f hf n hn, if_neg (by decide), mul_l 5, nI_add, chk_n (by omega) (by omega), cl_n (by omega)]
theorem q_wanted (hV : VF μc 1 a) {f n : Nat} (hf : f < 5) (hn : n < 6) : fX4_isWanted μc (nI f) (nI n) = some (if decide (0 < wz a f n) = true then 1 else 0) := by
  unfold fX4_isWanted
  have t0 : (0 : Int32).toInt = 0 := rfl
  rw [q_wantOfC hf hn, Option.bind_some]
  have hle : μc.1 6 (f * 6 + n) ≤ 0 ↔ ¬ 0 < wz a f n := by rw [i_le, q_wantC hV hf hn, t0]; omega
  by_cases h : 0 < wz a f n
  · rw [if_neg (fun q => hle.mp q h), if_pos (decide_eq_true h)]
  · rw [if_pos (hle.mpr h), if_neg (by simp [h])]
theorem q_80 {μ : PM} {a0 a1 x y : Int32} {p q : Nat} {u v : Int32} (hx : x = nI p) (hy : y = nI q) (hp : p < 100) (hq : q < 100) : jjX4_likesMore_50 μ a0 a1 x y u v = some (if (decide (v.toInt < u.toInt) || (decide (u.toInt = v.toInt) && decide (p < q))) = true then 1 else 0) := by
  subst hx hy
  unfold jjX4_likesMore_50
  have h1 : v < u ↔ v.toInt < u.toInt := i_lt
  have h2 : u = v ↔ u.toInt = v.toInt := i_eq
  have h3 : nI q ≤ nI p ↔ q ≤ p := le_n (by omega) (by omega)
  by_cases c1 : v.toInt < u.toInt
  · rw [if_pos (h1.mpr c1), if_pos (by simp [c1])]
  · rw [if_neg (fun z => c1 (h1.mp z))]
    by_cases c2 : u.toInt = v.toInt
    · rw [if_pos (h2.mpr c2)]
      by_cases c3 : p < q
      · rw [if_neg (fun z => absurd (h3.mp z) (by omega)), if_pos (by simp [c2, c3])]
      · rw [if_pos (h3.mpr (by omega)), if_neg (by simp [c2, c3])]
    · rw [if_neg (fun z => c2 (h2.mp z)), if_neg (by simp [c1, c2])]
theorem q_like1 (hV : VF μc 1 a) {f x : Nat} {o : Option Nat} (hf : f < 5) (hx : x < 6) (ho : ∀ y, o = some y → y < 6) : fX4_likesMore μc 1 (nI f) (nI x) (enc o) = some (if gs_o (wz a) f x o = true then 1 else 0) := by
  unfold fX4_likesMore
  cases o with
  | none => rw [if_pos (show enc none = -1 from rfl)]; rfl
  | some y =>
    have hy := ho y rfl
    show (if nI y = -1 then _ else _) = _
    rw [if_neg (fun q => (neg1_ne (by omega)).mp q), if_neg (by decide), q_wantOfC hf hx, Option.bind_some]
    unfold jjX4_likesMore_27
    rw [if_neg (by decide), show enc (some y) = nI y from rfl, q_wantOfC hf hy, Option.bind_some, q_80 rfl rfl (by omega) (by omega), q_wantC hV hf hx, q_wantC hV hf hy]
    rfl
theorem q_like0 (hV : VF μc 1 a) {n x : Nat} {o : Option Nat} (hn : n < 6) (hx : x < 5) (ho : ∀ y, o = some y → y < 5) : fX4_likesMore μc 0 (nI n) (nI x) (enc o) = some (if gs_o (fz a) n x o = true then 1 else 0) := by
  unfold fX4_likesMore
  cases o with
  | none => rw [if_pos (show enc none = -1 from rfl)]; rfl
  | some y =>
    have hy := ho y rfl
    show (if nI y = -1 then _ else _) = _
    rw [if_neg (fun q => (neg1_ne (by omega)).mp q), if_pos rfl, q_favOfC hx hn, Option.bind_some]
    unfold jjX4_likesMore_27
    rw [if_pos rfl, show enc (some y) = nI y from rfl, q_favOfC hy hn, Option.bind_some, q_80 rfl rfl (by omega) (by omega), q_favC hV hx hn, q_favC hV hy hn]
    rfl
theorem q_wantM {f n : Nat} (hf : f < 5) (hn : n < 6) : fX12_wantOf μm (nI f) (nI n) = some (μm.1 402 (52 + (6 * f + n))) := by
  unfold fX12_wantOf
  rw [l_mul 6, l_add 52, nI_add, chk_n (by omega) (by omega), cl_n (by omega), show 52 + 6 * f + n = 52 + (6 * f + n) by omega]
/-- how the reference writes what a FAMILY has -/
def encM (x : Int32) (o : Option Nat) : Prop := (o = none ∧ (x = -1 ∨ x = 6)) ∨ ∃ n, o = some n ∧ x = nI n
theorem q_haveM (hO : OB (μm.1 402)) {f n : Nat} {x : Int32} {o : Option Nat} (hf : f < 5) (hn : n < 6) (hx : encM x o) (ho : ∀ y, o = some y → y < 6) : fX12_wouldHave μm (nI f) (nI n) x = some (if (decide (0 < wz (μm.1 402) f n) && gs_o (wz (μm.1 402)) f n o) = true then 1 else 0) := by
  have hb := ob_want hO (n := 6 * f + n) (by omega)
  have t0 : (0 : Int32).toInt = 0 := rfl
  have t5 : (5 : Int32).toInt = 5 := rfl
  unfold fX12_wouldHave
  rw [q_wantM hf hn, Option.bind_some, q_isIn, q_ite, t0, t5]
  have h0 : μm.1 402 (52 + (6 * f + n)) = 0 ↔ ¬ 0 < wz (μm.1 402) f n := by
    unfold wz
    rw [i_eq, t0]; omega
  by_cases c0 : 0 < wz (μm.1 402) f n
  case neg => rw [if_pos (h0.mpr c0), if_neg (by simp [c0])]
  rw [if_neg (fun q => h0.mp q c0)]
  rcases hx with ⟨rfl, hx⟩ | ⟨y, rfl, rfl⟩
  · rw [if_neg (by rcases hx with rfl | rfl <;> decide), if_pos (by simp [c0, gs_o])]
  · have hy := ho y rfl
    rw [if_pos (by rw [ti_n (by omega)]; omega), q_wantM hf hy, Option.bind_some, Option.bind_some, Option.bind_some, Option.bind_some]
    have h1 : μm.1 402 (52 + (6 * f + y)) < μm.1 402 (52 + (6 * f + n)) ↔ wz (μm.1 402) f y < wz (μm.1 402) f n := i_lt
    have h2 : μm.1 402 (52 + (6 * f + n)) = μm.1 402 (52 + (6 * f + y)) ↔ wz (μm.1 402) f n = wz (μm.1 402) f y := i_eq
    have h3 : nI y ≤ nI n ↔ y ≤ n := le_n (by omega) (by omega)
    by_cases c1 : wz (μm.1 402) f y < wz (μm.1 402) f n
    · rw [if_pos (h1.mpr c1), if_pos (by simp [c0, c1, gs_o, gs_b])]
    · rw [if_neg (fun z => c1 (h1.mp z))]
      by_cases c2 : wz (μm.1 402) f n = wz (μm.1 402) f y
      · rw [if_pos (h2.mpr c2)]
        by_cases c3 : n < y
        · rw [if_neg (fun z => absurd (h3.mp z) (by omega)), if_pos (by
            have c0' := c0
            rw [c2] at c0'
            simp [c0', c2, c3, gs_o, gs_b])]
        · rw [if_pos (h3.mpr (by omega)), if_neg (by simp [c2, c3, gs_o, gs_b])]
      · rw [if_neg (fun z => c2 (h2.mp z)), if_neg (by simp [c1, c2, gs_o, gs_b])]
theorem q_beM (hO : OB (μm.1 402)) {f n : Nat} {o : Option Nat} (hf : f < 5) (hn : n < 6) (ho : ∀ y, o = some y → y < 5) : fX12_wouldBe μm (nI n) (nI f) (enc o) = some (if gs_o (fz (μm.1 402)) n f o = true then 1 else 0) := by
  unfold fX12_wouldBe
  cases o with
  | none => rw [if_pos (show enc none = -1 from rfl)]; rfl
  | some y =>
    have hy := ho y rfl
    have b1 := ob_favour hO (n := 5 * n + f) (by omega)
    have b2 := ob_favour hO (n := 5 * n + y) (by omega)
    rw [show enc (some y) = nI y from rfl, if_neg (fun q => (neg1_ne (by omega)).mp q)]
    simp only [go_let]
    rw [l_mul 5, l_add 82, nI_add, nI_add, chk_n (by omega) (by omega), chk_n (by omega) (by omega), cl_n (by omega), cl_n (by omega), show 82 + 5 * n + f = 82 + (5 * n + f) by omega, show 82 + 5 * n + y = 82 + (5 * n + y) by omega]
    have t0 : (0 : Int32).toInt = 0 := rfl
    have ts : (μm.1 402 (82 + (5 * n + f)) - μm.1 402 (82 + (5 * n + y))).toInt = fz (μm.1 402) n f - fz (μm.1 402) n y := by
      unfold fz
      exact ti_sub (by omega) (by omega)
    have h1 : 0 < μm.1 402 (82 + (5 * n + f)) - μm.1 402 (82 + (5 * n + y)) ↔ fz (μm.1 402) n y < fz (μm.1 402) n f := by rw [i_lt, ts, t0]; omega
    have h2 : μm.1 402 (82 + (5 * n + f)) - μm.1 402 (82 + (5 * n + y)) = 0 ↔ fz (μm.1 402) n f = fz (μm.1 402) n y := by rw [i_eq, ts, t0]; omega
    have h3 : nI y ≤ nI f ↔ y ≤ f := le_n (by omega) (by omega)
    by_cases c1 : fz (μm.1 402) n y < fz (μm.1 402) n f
    · rw [if_pos (h1.mpr c1), if_pos (by simp [c1, gs_o, gs_b])]
    · rw [if_neg (fun z => c1 (h1.mp z))]
      by_cases c2 : fz (μm.1 402) n f = fz (μm.1 402) n y
      · rw [if_pos (h2.mpr c2)]
        by_cases c3 : f < y
        · rw [if_neg (fun z => absurd (h3.mp z) (by omega)), if_pos (by simp [c2, c3, gs_o, gs_b])]
        · rw [if_pos (h3.mpr (by omega)), if_neg (by simp [c2, c3, gs_o, gs_b])]
      · rw [if_neg (fun z => c2 (h2.mp z)), if_neg (by simp [c1, c2, gs_o, gs_b])]
end PW
/-! the first of those who have a NAME -/
def own (w : Nat → Option Nat) (n : Nat) : Nat → Option Nat
  | 0 => none
  | F + 1 => match own w n F with
    | some f => some f
    | none => if w F = some n then some F else none
theorem own_some {w : Nat → Option Nat} {n : Nat} : ∀ {F f : Nat}, own w n F = some f → f < F ∧ w f = some n ∧ ∀ g, g < f → w g ≠ some n := by
  intro F
  induction F with
  | zero => intro f h; cases h
  | succ F ih =>
    intro f h
    have hn : own w n F = none → ∀ g, g < F → w g ≠ some n := by
      intro ho
      clear ih h
      induction F with
      | zero => intro g hg; omega
      | succ F ih =>
        intro g hg
        unfold own at ho
        cases hq : own w n F with
        | some f' => rw [hq] at ho; cases ho
        | none =>
          rw [hq] at ho
          dsimp only at ho
          by_cases e : g = F
          · subst e
            intro hw
            rw [if_pos hw] at ho
            cases ho
          · exact ih hq g (by omega)
    unfold own at h
    cases hq : own w n F with
    | some f' =>
      rw [hq] at h
      have h : some f' = some f := h
      cases h
      have := ih hq
      exact ⟨by omega, this.2⟩
    | none =>
      rw [hq] at h
      dsimp only at h
      split at h
      · rename_i hw
        cases h
        exact ⟨by omega, hw, hn hq⟩
      · cases h
theorem own_none {w : Nat → Option Nat} {n : Nat} : ∀ {F : Nat}, own w n F = none → ∀ g, g < F → w g ≠ some n := by
  intro F
  induction F with
  | zero => intro _ g hg; omega
  | succ F ih =>
    intro ho g hg
    unfold own at ho
    cases hq : own w n F with
    | some f' => rw [hq] at ho; cases ho
    | none =>
      rw [hq] at ho
      dsimp only at ho
      by_cases e : g = F
      · subst e
        intro hw
        rw [if_pos hw] at ho
        cases ho
      · exact ih hq g (by omega)
theorem enc_inj {o o' : Option Nat} (h : enc o = enc o') (h1 : ∀ y, o = some y → y < 100) (h2 : ∀ y, o' = some y → y < 100) : o = o' := by
  cases o with
  | none =>
    cases o' with
    | none => rfl
    | some y => exact absurd h.symm (fun q => (neg1_ne (by have := h2 y rfl; omega)).mp q)
  | some x =>
    cases o' with
    | none => exact absurd h (fun q => (neg1_ne (by have := h1 x rfl; omega)).mp q)
    | some y => exact congrArg some ((eq_n (by have := h1 x rfl; omega) (by have := h2 y rfl; omega)).mp h)
/-- pairs, counted one way and the other -/
def ct_in (p : Nat → Bool) : Nat → Nat
  | 0 => 0
  | k + 1 => ct_in p k + if p k = true then 1 else 0
def ct_out (q : Nat → Nat) : Nat → Nat
  | 0 => 0
  | k + 1 => ct_out q k + q k
theorem ct_in_le (p : Nat → Bool) : ∀ k, ct_in p k ≤ k := by
  intro k
  induction k with
  | zero => exact Nat.le_refl _
  | succ k ih => unfold ct_in; split <;> omega
theorem ct_out_le {q : Nat → Nat} {m : Nat} (h : ∀ k, q k ≤ m) : ∀ k, ct_out q k ≤ m * k := by
  intro k
  induction k with
  | zero => exact Nat.le_refl _
  | succ k ih => unfold ct_out; have := h k; rw [Nat.mul_succ]; omega
theorem ct_out_eq {q q' : Nat → Nat} : ∀ {k : Nat}, (∀ i, i < k → q i = q' i) → ct_out q k = ct_out q' k := by
  intro k
  induction k with
  | zero => intro _; rfl
  | succ k ih => intro h; unfold ct_out; rw [ih (fun i hi => h i (by omega)), h k (by omega)]
theorem ct_in_eq {q q' : Nat → Bool} : ∀ {k : Nat}, (∀ i, i < k → q i = q' i) → ct_in q k = ct_in q' k := by
  intro k
  induction k with
  | zero => intro _; rfl
  | succ k ih => intro h; unfold ct_in; rw [ih (fun i hi => h i (by omega)), h k (by omega)]
theorem ct_add (q r : Nat → Nat) : ∀ k, ct_out (fun i => q i + r i) k = ct_out q k + ct_out r k := by
  intro k
  induction k with
  | zero => rfl
  | succ k ih => unfold ct_out; rw [ih]; omega
theorem ct_swap (p : Nat → Nat → Bool) (F : Nat) : ∀ N, ct_out (fun n => ct_in (fun f => p f n) F) N = ct_out (fun f => ct_in (fun n => p f n) N) F := by
  intro N
  induction N with
  | zero =>
    show 0 = ct_out (fun f => 0) F
    induction F with
    | zero => rfl
    | succ F ih => unfold ct_out; rw [← ih]
  | succ N ih =>
    have e : ct_out (fun f => ct_in (fun n => p f n) (N + 1)) F = ct_out (fun f => ct_in (fun n => p f n) N + if p f N = true then 1 else 0) F := rfl
    have e2 : ct_out (fun f => if p f N = true then 1 else 0) F = ct_in (fun f => p f N) F := by
      clear ih e
      induction F with
      | zero => rfl
      | succ F ih => unfold ct_out ct_in; rw [ih]
    rw [e, ct_add, e2]
    show ct_out (fun n => ct_in (fun f => p f n) F) N + ct_in (fun f => p f N) F = _
    rw [ih]
theorem ct_zero (p : Nat → Bool) : ∀ k, ct_in p k = 0 ↔ ∀ i, i < k → p i = false := by
  intro k
  induction k with
  | zero => exact ⟨fun _ i hi => by omega, fun _ => rfl⟩
  | succ k ih =>
    unfold ct_in
    constructor
    · intro h i hi
      by_cases e : i = k
      · subst e
        cases hp : p i with
        | false => rfl
        | true => rw [hp] at h; simp at h
      · exact ih.mp (by omega) i (by omega)
    · intro h
      rw [ih.mpr (fun i hi => h i (by omega)), h k (by omega)]
      rfl
theorem ct_zero2 (q : Nat → Nat) : ∀ k, ct_out q k = 0 ↔ ∀ i, i < k → q i = 0 := by
  intro k
  induction k with
  | zero => exact ⟨fun _ i hi => by omega, fun _ => rfl⟩
  | succ k ih =>
    unfold ct_out
    constructor
    · intro h i hi
      by_cases e : i = k
      · subst e; omega
      · exact ih.mp (by omega) i (by omega)
    · intro h
      rw [ih.mpr (fun i hi => h i (by omega)), h k (by omega)]
/-- a pair that would rather -/
def prz (a : Nat → Int32) (w : Nat → Option Nat) (F f n : Nat) : Bool := decide (0 < wz a f n) && (gs_o (wz a) f n (w f) && gs_o (fz a) n f (own w n F))
