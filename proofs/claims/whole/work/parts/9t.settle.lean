/-! ===== the reference settles ===== -/
def az_c (q : List Nat) : Nat := q.countP (fun x => decide (az_rank x = 7 ∨ x = 20 ∨ 40 ≤ x))
theorem az_c_0 : az_c [] = 0 := rfl
theorem az_c_s (x : Nat) (q : List Nat) : az_c (x :: q) = az_c q + if az_rank x = 7 ∨ x = 20 ∨ 40 ≤ x then 1 else 0 := by
  unfold az_c
  rw [List.countP_cons]
  by_cases h : az_rank x = 7 ∨ x = 20 ∨ 40 ≤ x
  · rw [if_pos (decide_eq_true h), if_pos h]
  · rw [if_neg (by rw [decide_eq_false h]; decide), if_neg h]
theorem az_c_le (q : List Nat) : az_c q ≤ q.length := List.countP_le_length
theorem PLM_top {μ : PM} {x : Nat} {q : List Nat} (h : PLM μ (x :: q)) : μ.1 401 16 = nI (q.length + 1) ∧ q.length + 1 ≤ 130 ∧ μ.1 406 q.length = nI x ∧ x < 64 := by
  obtain ⟨h1, h2, h3⟩ := h
  have := h3 0 (by simp)
  exact ⟨h1, h2, this⟩
theorem PLM_tail {μ μ' : PM} {x : Nat} {q : List Nat} (h : PLM μ (x :: q)) (h1 : μ'.1 401 16 = nI q.length) (h2 : ∀ k, k < q.length → μ'.1 406 k = μ.1 406 k) : PLM μ' q := by
  obtain ⟨k1, k2, k3⟩ := h
  have k2 : q.length + 1 ≤ 130 := k2
  refine ⟨h1, by omega, fun k hk => ?_⟩
  have hk' : k + 1 < (x :: q).length := by
    show k + 1 < q.length + 1
    omega
  have := k3 (k + 1) hk'
  rw [h2 _ (by omega)]
  have e : (x :: q).length - 1 - (k + 1) = q.length - 1 - k := by
    show q.length + 1 - 1 - (k + 1) = _
    omega
  rw [e] at this
  exact this
theorem PLM_push {μ μ' : PM} {x : Nat} {q : List Nat} (h : PLM μ q) (hx : x < 64) (hl : q.length < 130) (h1 : μ'.1 401 16 = nI (q.length + 1)) (h2 : ∀ k, k < q.length → μ'.1 406 k = μ.1 406 k) (h3 : μ'.1 406 q.length = nI x) : PLM μ' (x :: q) := by
  obtain ⟨k1, k2, k3⟩ := h
  refine ⟨h1, by show q.length + 1 ≤ 130; omega, fun k hk => ?_⟩
  have hk : k < q.length + 1 := hk
  cases k with
  | zero => exact ⟨h3, hx⟩
  | succ k =>
    have := k3 k (by omega)
    have e : (x :: q).length - 1 - (k + 1) = q.length - 1 - k := by
      show q.length + 1 - 1 - (k + 1) = _
      omega
    rw [e, h2 _ (by omega)]
    exact this
/-- a settling leaves the token, the tape, and whether one stands -/
def SF (μ μ' : PM) : Prop := (∀ c, c ≠ 401 → c ≠ 404 → μ'.1 c = μ.1 c) ∧ (∀ j, j ≠ 13 → j ≠ 16 → j ≠ 17 → μ'.1 401 j = μ.1 401 j) ∧ μ'.2 = μ.2
theorem SF.rfl' (μ : PM) : SF μ μ := ⟨fun _ _ _ => rfl, fun _ _ _ _ => rfl, rfl⟩
theorem SF.tr {a b c : PM} (h : SF a b) (h2 : SF b c) : SF a c := ⟨fun x k1 k2 => (h2.1 x k1 k2).trans (h.1 x k1 k2), fun j k1 k2 k3 => (h2.2.1 j k1 k2 k3).trans (h.2.1 j k1 k2 k3), h2.2.2.trans h.2.2⟩
/-- one is taken off the pile and written -/
theorem st_take {μ : PM} {T x : Nat} {q : List Nat} {out : pz_C} (h : PLM μ (x :: q)) (ho : OUTM μ T out) (hl : out.length + (x :: q).length ≤ 304) : ∃ μ1, fX12_emit (pm_wi μ 401 16 (nI q.length)) (nI x) 0 = some μ1 ∧ PLM μ1 q ∧ OUTM μ1 T (out ++ [(x, 0)]) ∧ EF T μ μ1 ∧ SF μ μ1 ∧ μ1.1 401 16 = nI q.length ∧ μ1.1 406 q.length = nI x ∧ μ1.1 401 17 = μ.1 401 17 := by
  have hl : out.length + (q.length + 1) ≤ 304 := hl
  have ht := PLM_top h
  have ho2 : OUTM (pm_wi μ 401 16 (nI q.length)) T out := by
    obtain ⟨h1, h2, h3, h4, h5⟩ := ho
    refine ⟨by rw [wi_i (by omega)]; exact h1, h2, h3, by rw [wi_i (by omega)]; exact h4, fun j hj => by rw [wi_c (by omega)]; exact h5 j hj⟩
  obtain ⟨μ1, k1, k2, k3, k4⟩ := q_emit (a := x) (c := 0) ho2 (by omega)
  have e16 : μ1.1 401 16 = nI q.length := by rw [k4.2.1 16 (by omega), wi_e]
  have e406 : μ1.1 406 = μ.1 406 := by rw [k4.1 406 (by omega) (by omega), wi_c (by omega)]
  refine ⟨μ1, k1, PLM_tail h e16 (fun k _ => by rw [e406]), k2, ((EF.rfl' T μ).wi1 (by omega)).tr k3, ⟨fun c c1 c2 => by rw [k4.1 c c1 c2, wi_c c1], fun j j1 j2 j3 => by rw [k4.2.1 j j1, wi_i j2], k4.2.2⟩, e16, by rw [e406]; exact ht.2.2.1, by rw [k4.2.1 17 (by omega), wi_i (by omega)]⟩
/-- what holds behind a settling -/
def STL (T least : Nat) (q : List Nat) (out : pz_C) (μ μ' : PM) : Prop := PLM μ' (az_settle least q (az_c q) out).1 ∧ OUTM μ' T (az_settle least q (az_c q) out).2.2 ∧ μ'.1 401 17 = nI (az_settle least q (az_c q) out).2.1 ∧ (az_settle least q (az_c q) out).2.1 = az_c (az_settle least q (az_c q) out).1 ∧ EF T μ μ' ∧ SF μ μ'
theorem STL_in {T least x : Nat} {q : List Nat} {out : pz_C} {μ μ1 μ' : PM} (h1 : 1 ≤ least) (hr : least ≤ az_rank x) (hE : EF T μ μ1) (hS : SF μ μ1) (h : STL T least q (out ++ [(x, 0)]) μ1 μ') : STL T least (x :: q) out μ μ' := by
  have e : az_settle least (x :: q) (az_c (x :: q)) out = az_settle least q (az_c q) (out ++ [(x, 0)]) := by
    show (if least ≤ az_rank x then _ else _) = _
    rw [if_pos hr, az_c_s]
    have h40 : ¬ 40 ≤ x := fun z => by
      have := az_rank40 z
      omega
    by_cases c : az_rank x = 7 ∨ x = 20
    · rw [if_pos c, if_pos (c.elim Or.inl (fun z => Or.inr (Or.inl z))), Nat.add_sub_cancel]
    · rw [if_neg c, if_neg (fun z => z.elim (fun z => c (Or.inl z)) (fun z => z.elim (fun z => c (Or.inr z)) h40)), Nat.add_zero]
  obtain ⟨k1, k2, k3, k4, k5, k6⟩ := h
  unfold STL
  rw [e]
  exact ⟨k1, k2, k3, k4, hE.tr k5, hS.tr k6⟩
theorem STL_out {T least x : Nat} {q : List Nat} {out : pz_C} {μ : PM} (hr : ¬ least ≤ az_rank x) (h : PLM μ (x :: q)) (ho : OUTM μ T out) (hc : μ.1 401 17 = nI (az_c (x :: q))) : STL T least (x :: q) out μ μ := by
  have e : az_settle least (x :: q) (az_c (x :: q)) out = (x :: q, az_c (x :: q), out) := by
    show (if least ≤ az_rank x then _ else _) = _
    rw [if_neg hr]
  unfold STL
  rw [e]
  exact ⟨h, ho, hc, rfl, EF.rfl' T μ, SF.rfl' μ⟩
theorem STL_nil {T least : Nat} {out : pz_C} {μ : PM} (h : PLM μ []) (ho : OUTM μ T out) (hc : μ.1 401 17 = nI (az_c [])) : STL T least [] out μ μ := ⟨h, ho, hc, rfl, EF.rfl' T μ, SF.rfl' μ⟩
/-- one step of it -/
theorem st_one {T least x : Nat} {q : List Nat} {out : pz_C} {μ : PM} (h1 : 1 ≤ least) (hr : least ≤ az_rank x) (h : PLM μ (x :: q)) (ho : OUTM μ T out) (hl : out.length + (x :: q).length ≤ 304) (hc : μ.1 401 17 = nI (az_c (x :: q))) : ∃ μ1 μ2, fX12_emit (pm_wi μ 401 16 (nI q.length)) (nI x) 0 = some μ1 ∧ μ1.1 401 16 = nI q.length ∧ μ1.1 406 q.length = nI x ∧ μ2 = (if az_rank x = 7 ∨ x = 20 then pm_wi μ1 401 17 (μ1.1 401 17 - 1) else μ1) ∧ PLM μ2 q ∧ OUTM μ2 T (out ++ [(x, 0)]) ∧ EF T μ μ2 ∧ SF μ μ2 ∧ μ2.1 401 17 = nI (az_c q) := by
  obtain ⟨μ1, k1, k2, k3, k4, k5, k6, k7, k8⟩ := st_take h ho hl
  refine ⟨μ1, _, k1, k6, k7, rfl, ?_⟩
  have hcs := az_c_s x q
  have h40 : ¬ 40 ≤ x := fun z => by
    have := az_rank40 z
    omega
  by_cases c : az_rank x = 7 ∨ x = 20
  · rw [if_pos (c.elim Or.inl (fun z => Or.inr (Or.inl z)))] at hcs
    rw [if_pos c]
    refine ⟨?_, ?_, k4.wi1 (by omega), ⟨fun y y1 y2 => by rw [wi_c y1]; exact k5.1 y y1 y2, fun j j1 j2 j3 => by rw [wi_i j3]; exact k5.2.1 j j1 j2 j3, k5.2.2⟩, ?_⟩
    · exact ⟨by rw [wi_i (by omega)]; exact k2.1, k2.2.1, fun k hk => by rw [wi_c (by omega)]; exact k2.2.2 k hk⟩
    · exact ⟨by rw [wi_i (by omega)]; exact k3.1, k3.2.1, k3.2.2.1, by rw [wi_i (by omega)]; exact k3.2.2.2.1, fun j hj => by rw [wi_c (by omega)]; exact k3.2.2.2.2 j hj⟩
    · rw [wi_e, k8, hc, hcs, subm1 (by omega), Nat.add_sub_cancel]
  · rw [if_neg (fun z => z.elim (fun z => c (Or.inl z)) (fun z => z.elim (fun z => c (Or.inr z)) h40)), Nat.add_zero] at hcs
    rw [if_neg c]
    exact ⟨k2, k3, k4, k5, by rw [k8, hc, hcs]⟩
theorem q_settleL {T least : Nat} (h1 : 1 ≤ least) (h7 : least ≤ 7) : ∀ q out μ fuel, PLM μ q → OUTM μ T out → out.length + q.length ≤ 304 → μ.1 401 17 = nI (az_c q) → q.length < fuel → ∃ μ', lp (fun s => lbX12_settle_0 (nI least) s) fuel μ = some μ' ∧ STL T least q out μ μ' := by
  intro q
  induction q with
  | nil =>
    intro out μ fuel h ho hl hc hf
    obtain ⟨k, rfl⟩ : ∃ k, fuel = k + 1 := ⟨fuel - 1, by omega⟩
    refine ⟨μ, lp_e ?_, STL_nil h ho hc⟩
    show lbX12_settle_0 (nI least) μ = _
    unfold lbX12_settle_0
    rw [h.1, if_pos (show nI ([] : List Nat).length ≤ 0 by decide)]
  | cons x q ih =>
    intro out μ fuel h ho hl hc hf
    obtain ⟨k, rfl⟩ : ∃ k, fuel = k + 1 := ⟨fuel - 1, by omega⟩
    obtain ⟨t1, t2, t3, t4⟩ := PLM_top h
    have hrk := q_rank x t4
    have hlt : nI (az_rank x) < nI least ↔ az_rank x < least := lt_n (by omega) (by omega)
    by_cases hr : least ≤ az_rank x
    · obtain ⟨μ1, μ2, s1, s2, s3, s4, s5, s6, s7, s8, s9⟩ := st_one h1 hr h ho hl hc
      have hl2 : out.length + (q.length + 1) ≤ 304 := hl
      have hf2 : q.length + 1 < k + 1 := hf
      obtain ⟨μ3, r1, r2⟩ := ih (out ++ [(x, 0)]) μ2 k s5 s6 (by rw [List.length_append]; show out.length + 1 + q.length ≤ 304; omega) s9 (by omega)
      refine ⟨μ3, ?_, STL_in h1 hr s7 s8 r2⟩
      rw [lp_l (s' := μ2) ?_]
      · exact r1
      show lbX12_settle_0 (nI least) μ = _
      have q7 : nI (az_rank x) = 7 ↔ az_rank x = 7 := eq_l (n := 7) (by omega) (by omega)
      have q20 : nI x = 20 ↔ x = 20 := eq_l (n := 20) (by omega) (by omega)
      unfold lbX12_settle_0 jjX12_settle_80_0
      simp only [go_let]
      rw [t1, if_neg (show ¬ nI (q.length + 1) ≤ 0 by rw [le_l (n := 0) (by omega) (by omega)]; omega), subm1 (by omega), Nat.add_sub_cancel, chk_n (show q.length < 160 by omega) (by omega), cl_n (show q.length < 2147483648 by omega), t3, hrk.1, if_neg (fun z => by have := hlt.mp z; omega), wi_e, chk_n (show q.length < 160 by omega) (by omega), wi_c (show 406 ≠ 401 by decide), cl_n (show q.length < 2147483648 by omega), t3, s1, Option.bind_some, s2, chk_n (show q.length < 160 by omega) (by omega), cl_n (show q.length < 2147483648 by omega), s3, hrk.1, chk_n (show q.length < 160 by omega) (by omega), s4]
      by_cases c7 : az_rank x = 7
      · rw [if_pos (q7.mpr c7), if_pos (Or.inl c7)]
      rw [if_neg (fun z => c7 (q7.mp z))]
      by_cases c20 : x = 20
      · rw [if_pos (q20.mpr c20), if_pos (Or.inr c20)]
      · rw [if_neg (fun z => c20 (q20.mp z)), if_neg (fun z => z.elim c7 c20)]
    · refine ⟨μ, lp_e ?_, STL_out hr h ho hc⟩
      show lbX12_settle_0 (nI least) μ = _
      unfold lbX12_settle_0
      rw [t1, if_neg (show ¬ nI (q.length + 1) ≤ 0 by rw [le_l (n := 0) (by omega) (by omega)]; omega), subm1 (by omega), Nat.add_sub_cancel, chk_n (show q.length < 160 by omega) (by omega), cl_n (show q.length < 2147483648 by omega), t3, hrk.1, if_pos (hlt.mpr (by omega))]
theorem q_settle {T least : Nat} (h1 : 1 ≤ least) (h7 : least ≤ 7) {q : List Nat} {out : pz_C} {μ : PM} (h : PLM μ q) (ho : OUTM μ T out) (hl : out.length + q.length ≤ 304) (hc : μ.1 401 17 = nI (az_c q)) : ∃ μ', fX12_settle μ (nI least) = some μ' ∧ STL T least q out μ μ' := by
  cases q with
  | nil =>
    refine ⟨μ, ?_, STL_nil h ho hc⟩
    unfold fX12_settle
    rw [h.1, if_pos (show nI ([] : List Nat).length ≤ 0 by decide)]
  | cons x q =>
    obtain ⟨t1, t2, t3, t4⟩ := PLM_top h
    have hrk := q_rank x t4
    have hlt : nI (az_rank x) < nI least ↔ az_rank x < least := lt_n (by omega) (by omega)
    by_cases hr : least ≤ az_rank x
    · obtain ⟨μ1, μ2, s1, s2, s3, s4, s5, s6, s7, s8, s9⟩ := st_one h1 hr h ho hl hc
      have hl2 : out.length + (q.length + 1) ≤ 304 := hl
      obtain ⟨μ3, r1, r2⟩ := q_settleL h1 h7 q (out ++ [(x, 0)]) μ2 go_fuel s5 s6 (by rw [List.length_append]; show out.length + 1 + q.length ≤ 304; omega) s9 (by unfold go_fuel; omega)
      refine ⟨μ3, ?_, STL_in h1 hr s7 s8 r2⟩
      have q7 : nI (az_rank x) = 7 ↔ az_rank x = 7 := eq_l (n := 7) (by omega) (by omega)
      have q20 : nI x = 20 ↔ x = 20 := eq_l (n := 20) (by omega) (by omega)
      unfold fX12_settle jjX12_settle_80
      simp only [go_let]
      rw [t1, if_neg (show ¬ nI (q.length + 1) ≤ 0 by rw [le_l (n := 0) (by omega) (by omega)]; omega), subm1 (by omega), Nat.add_sub_cancel, chk_n (show q.length < 160 by omega) (by omega), cl_n (show q.length < 2147483648 by omega), t3, hrk.1, if_neg (fun z => by have := hlt.mp z; omega), wi_e, chk_n (show q.length < 160 by omega) (by omega), wi_c (show 406 ≠ 401 by decide), cl_n (show q.length < 2147483648 by omega), t3, s1, Option.bind_some, s2, chk_n (show q.length < 160 by omega) (by omega), cl_n (show q.length < 2147483648 by omega), s3, hrk.1, chk_n (show q.length < 160 by omega) (by omega)]
      by_cases c7 : az_rank x = 7
      · rw [if_pos (Or.inl c7)] at s4
        rw [if_pos (q7.mpr c7), ← s4, r1]
        rfl
      rw [if_neg (fun z => c7 (q7.mp z))]
      by_cases c20 : x = 20
      · rw [if_pos (Or.inr c20)] at s4
        rw [if_pos (q20.mpr c20), ← s4, r1]
        rfl
      · rw [if_neg (fun z => z.elim c7 c20)] at s4
        rw [if_neg (fun z => c20 (q20.mp z)), st_b, ← s4, r1]
        rfl
    · refine ⟨μ, ?_, STL_out hr h ho hc⟩
      unfold fX12_settle
      rw [t1, if_neg (show ¬ nI (q.length + 1) ≤ 0 by rw [le_l (n := 0) (by omega) (by omega)]; omega), subm1 (by omega), Nat.add_sub_cancel, chk_n (show q.length < 160 by omega) (by omega), cl_n (show q.length < 2147483648 by omega), t3, hrk.1, if_pos (hlt.mpr (by omega))]
