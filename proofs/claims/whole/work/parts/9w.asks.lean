/-! ===== what the reference asks of its pile and the token ===== -/
theorem oI_eq {o : Option Nat} {y : Nat} (ho : ∀ z, o = some z → z < 64) (hy : y < 64) : oI o = nI y ↔ o = some y := by
  cases o with
  | none =>
    refine ⟨fun z => ?_, fun z => (by cases z)⟩
    have := congrArg Int32.toInt z
    rw [ti_n (by omega)] at this
    have e : (oI none).toInt = -1 := rfl
    omega
  | some x =>
    have hx := ho x rfl
    have : oI (some x) = nI x := rfl
    rw [this, nI_eq (by omega) (by omega)]
    exact ⟨fun z => by rw [z], fun z => Option.some.inj z⟩
theorem now_lt {μ : PM} {q : List Nat} (h : PLM μ q) : ∀ z, az_now q = some z → z < 64 := by
  intro z hz
  obtain ⟨v, -, k2⟩ := q_openAt h
  rcases k2 with ⟨-, e2⟩ | ⟨k, e1, -, e3, -⟩
  · rw [e2] at hz
    cases hz
  · rw [e3] at hz
    rw [← Option.some.inj hz]
    exact (h.2.2 k e1).2
theorem q_askAhead {μ : PM} {q : List Nat} (h : PLM μ q) : fX12_isAskAhead μ = some (if az_ask q = true then 1 else 0) := by
  have h42 : oI (az_now q) = 42 ↔ az_now q = some 42 := oI_eq (y := 42) (now_lt h) (by omega)
  unfold fX12_isAskAhead az_ask
  rw [q_openNow h, Option.bind_some]
  by_cases c : az_now q = some 42
  · rw [if_pos (h42.mpr c), decide_eq_true c, Bool.true_and]
    cases q with
    | nil => exact absurd c (by decide)
    | cons x q =>
      obtain ⟨t1, t2, t3, t4⟩ := PLM_top h
      have hrk := q_rank x t4
      have q40 : (40 : Int32) ≤ nI x ↔ 40 ≤ x := l_le (n := 40) (by omega) (by omega)
      rw [t1, subm1 (by omega), Nat.add_sub_cancel, chk_n (show q.length < 160 by omega) (by omega), cl_n (show q.length < 2147483648 by omega), t3, chk_n (show q.length < 160 by omega) (by omega), hrk.1, q_isIn, q_ite]
      show _ = some (if (decide (40 ≤ x) || (decide (1 ≤ az_rank x) && decide (az_rank x ≤ 3))) = true then 1 else 0)
      by_cases c40 : 40 ≤ x
      · rw [if_pos (q40.mpr c40), decide_eq_true c40, Bool.true_or, if_pos rfl]
      · rw [if_neg (fun z => c40 (q40.mp z)), decide_eq_false c40, Bool.false_or, ti_n (by omega)]
        have e1 : (1 : Int32).toInt = 1 := rfl
        have e3 : (3 : Int32).toInt = 3 := rfl
        rw [e1, e3]
        by_cases cr : 1 ≤ az_rank x ∧ az_rank x ≤ 3
        · rw [if_pos (by omega), decide_eq_true cr.1, decide_eq_true cr.2]
          rfl
        · rw [if_neg (by omega), if_neg (fun z => cr ⟨of_decide_eq_true (Bool.and_eq_true_iff.mp z).1, of_decide_eq_true (Bool.and_eq_true_iff.mp z).2⟩)]
  · rw [if_neg (fun z => c (h42.mp z)), decide_eq_false c, Bool.false_and]
    rfl
section ASK
variable {b : Nat → Nat} {n : Nat}
theorem tm_let {μ : PM} {i : Nat} (h : TPM μ b n) (ht : TM μ b n (tk_pos b n i)) : (μ.1 401 9 = 2 ∧ tk_t b n i ≤ 31 ∧ ∀ w, w < 31 → ∀ W : Int64, W.toInt = (tk_wk w : Int) → (lg_cmp (μ.2 401 11) W = 0 ↔ tk_t b n i = w)) ∨ (¬ μ.1 401 9 = 2 ∧ 32 ≤ tk_t b n i) := by
  rcases tm_kind h ht with ⟨e1, e2⟩ | ⟨e1, e2, -⟩ | ⟨K, e1, e2, e3⟩ | ⟨x, q, hx, e1, e2⟩
  · right
    rw [e1, e2]
    exact ⟨by decide, by omega⟩
  · right
    rw [e1, e2]
    exact ⟨by decide, by omega⟩
  · left
    have := tk_word_le K
    refine ⟨e2, by rw [e1]; exact this, fun w hw W hW => ?_⟩
    have hk := tw_6 w hw
    rw [lc_eq, hW, e1, tk_word_iff hw]
    rcases e3 with ⟨g1, g2⟩ | ⟨g1, g2⟩ <;> rw [g2] <;> omega
  · right
    obtain ⟨g1, g2, g3, g4, g5, -⟩ := tk_kd_1 x hx q
    rw [e1, e2]
    exact ⟨fun z => g5 ((eq_l (n := 2) (by omega) (by omega)).mp z), by omega⟩
theorem tm_name {μ : PM} {i : Nat} (h : TPM μ b n) (ht : TM μ b n (tk_pos b n i)) : fX12_nameOf μ = if 10 ≤ tk_t b n i ∧ tk_t b n i ≤ 18 then nI (tk_t b n i - 10) else -1 := by
  unfold fX12_nameOf
  rcases tm_let h ht with ⟨e1, e2, e3⟩ | ⟨e1, e2⟩
  case inr => rw [if_neg e1, if_neg (by omega)]
  rw [if_pos e1]
  generalize tk_t b n i = t at e2 e3 ⊢
  have k0 := e3 10 (by omega) _ tw_sort.2.2.2.2.2.2.2.2.2.2
  have k1 := e3 11 (by omega) _ tw_name.1
  have k2 := e3 12 (by omega) _ tw_name.2.1
  have k3 := e3 13 (by omega) _ tw_name.2.2.1
  have k4 := e3 14 (by omega) _ tw_name.2.2.2.1
  have k5 := e3 15 (by omega) _ tw_name.2.2.2.2.1
  have k6 := e3 16 (by omega) _ tw_name.2.2.2.2.2.1
  have k7 := e3 17 (by omega) _ tw_name.2.2.2.2.2.2.1
  have k8 := e3 18 (by omega) _ tw_name.2.2.2.2.2.2.2
  by_cases c0 : t = 10
  · rw [if_pos (k0.mpr c0), c0]; rfl
  rw [if_neg (fun z => c0 (k0.mp z))]
  by_cases c1 : t = 11
  · rw [if_pos (k1.mpr c1), c1]; rfl
  rw [if_neg (fun z => c1 (k1.mp z))]
  by_cases c2 : t = 12
  · rw [if_pos (k2.mpr c2), c2]; rfl
  rw [if_neg (fun z => c2 (k2.mp z))]
  by_cases c3 : t = 13
  · rw [if_pos (k3.mpr c3), c3]; rfl
  rw [if_neg (fun z => c3 (k3.mp z))]
  by_cases c4 : t = 14
  · rw [if_pos (k4.mpr c4), c4]; rfl
  rw [if_neg (fun z => c4 (k4.mp z))]
  by_cases c5 : t = 15
  · rw [if_pos (k5.mpr c5), c5]; rfl
  rw [if_neg (fun z => c5 (k5.mp z))]
  by_cases c6 : t = 16
  · rw [if_pos (k6.mpr c6), c6]; rfl
  rw [if_neg (fun z => c6 (k6.mp z))]
  by_cases c7 : t = 17
  · rw [if_pos (k7.mpr c7), c7]; rfl
  rw [if_neg (fun z => c7 (k7.mp z))]
  by_cases c8 : t = 18
  · rw [if_pos (k8.mpr c8), c8]; rfl
  rw [if_neg (fun z => c8 (k8.mp z)), if_neg (by omega)]
theorem tm_comp {μ : PM} {i : Nat} (h : TPM μ b n) (ht : TM μ b n (tk_pos b n i)) : fX12_compareOf μ = oI (pz_cmp (tk_t b n i)) := by
  have k1 : μ.1 401 9 = 60 ↔ tk_t b n i = 40 := tm_sign (p := (60, 40)) h ht (by decide)
  have k2 : μ.1 401 9 = 4 ↔ tk_t b n i = 51 := tm_sign (p := (4, 51)) h ht (by decide)
  have k3 : μ.1 401 9 = 62 ↔ tk_t b n i = 41 := tm_sign (p := (62, 41)) h ht (by decide)
  have k4 : μ.1 401 9 = 5 ↔ tk_t b n i = 52 := tm_sign (p := (5, 52)) h ht (by decide)
  have k5 : μ.1 401 9 = 61 ↔ tk_t b n i = 42 := tm_sign (p := (61, 42)) h ht (by decide)
  have k6 : μ.1 401 9 = 35 ↔ tk_t b n i = 43 := tm_sign (p := (35, 43)) h ht (by decide)
  unfold fX12_compareOf pz_cmp
  generalize tk_t b n i = t at k1 k2 k3 k4 k5 k6 ⊢
  by_cases c1 : t = 40
  · rw [if_pos (k1.mpr c1), if_pos c1]; rfl
  rw [if_neg (fun z => c1 (k1.mp z)), if_neg c1]
  by_cases c2 : t = 51
  · rw [if_pos (k2.mpr c2), if_pos c2]; rfl
  rw [if_neg (fun z => c2 (k2.mp z)), if_neg c2]
  by_cases c3 : t = 41
  · rw [if_pos (k3.mpr c3), if_pos c3]; rfl
  rw [if_neg (fun z => c3 (k3.mp z)), if_neg c3]
  by_cases c4 : t = 52
  · rw [if_pos (k4.mpr c4), if_pos c4]; rfl
  rw [if_neg (fun z => c4 (k4.mp z)), if_neg c4]
  by_cases c5 : t = 42
  · rw [if_pos (k5.mpr c5), if_pos c5]; rfl
  rw [if_neg (fun z => c5 (k5.mp z)), if_neg c5]
  by_cases c6 : t = 43
  · rw [if_pos (k6.mpr c6), if_pos c6]; rfl
  rw [if_neg (fun z => c6 (k6.mp z)), if_neg c6]
  rfl
theorem q_between {μ : PM} {i : Nat} {q : List Nat} (h : TPM μ b n) (ht : TM μ b n (tk_pos b n i)) (hp : PLM μ q) : fX12_betweenOf μ = some (oI (az_between (tk_t b n i) q)) := by
  have k1 : μ.1 401 9 = 43 ↔ tk_t b n i = 44 := tm_sign (p := (43, 44)) h ht (by decide)
  have k2 : μ.1 401 9 = 45 ↔ tk_t b n i = 45 := tm_sign (p := (45, 45)) h ht (by decide)
  have k3 : μ.1 401 9 = 42 ↔ tk_t b n i = 46 := tm_sign (p := (42, 46)) h ht (by decide)
  have k4 : μ.1 401 9 = 47 ↔ tk_t b n i = 47 := tm_sign (p := (47, 47)) h ht (by decide)
  have h42 : oI (az_now q) = 42 ↔ az_now q = some 42 := oI_eq (y := 42) (now_lt hp) (by omega)
  unfold fX12_betweenOf az_between
  rw [q_openNow hp, q_isCmp hp, tm_comp h ht, tm_word (w := 27) h ht (by omega) tw_at.2.2.2.2.2.2.2.2.1, tm_word (w := 26) h ht (by omega) tw_at.2.2.2.2.2.2.2.1, Option.bind_some, Option.bind_some, q_ite, q_ite, q_ite]
  generalize tk_t b n i = t at k1 k2 k3 k4 ⊢
  by_cases c1 : t = 44
  · rw [if_pos (k1.mpr c1), if_pos c1]; rfl
  rw [if_neg (fun z => c1 (k1.mp z)), if_neg c1]
  by_cases c2 : t = 45
  · rw [if_pos (k2.mpr c2), if_pos c2]; rfl
  rw [if_neg (fun z => c2 (k2.mp z)), if_neg c2]
  by_cases c3 : t = 46
  · rw [if_pos (k3.mpr c3), if_pos c3]; rfl
  rw [if_neg (fun z => c3 (k3.mp z)), if_neg c3]
  by_cases c4 : t = 47
  · rw [if_pos (k4.mpr c4), if_pos c4]; rfl
  rw [if_neg (fun z => c4 (k4.mp z)), if_neg c4]
  by_cases c : az_now q = some 42
  · rw [if_pos (h42.mpr c), if_neg (show ¬ az_now q ≠ some 42 from fun z => z c)]
    by_cases cm : az_cmpd q = true
    · rw [if_pos cm, if_neg (show ¬ az_cmpd q = false by rw [cm]; decide)]
      by_cases c5 : t = 27
      · rw [if_pos c5, if_pos c5]; rfl
      rw [if_neg c5, if_neg c5]
      by_cases c6 : t = 26
      · rw [if_pos c6, if_pos c6]; rfl
      rw [if_neg c6, if_neg c6]
      rfl
    · rw [if_neg cm, if_pos (Bool.eq_false_iff.mpr cm)]
  · rw [if_neg (fun z => c (h42.mp z)), if_pos c]
    rfl
end ASK
