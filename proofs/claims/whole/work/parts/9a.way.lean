/-! ===== ways as numbers to the base of seven; stable ===== -/
def wd (F N : Nat) (d : Nat → Nat) (f : Nat) : Option Nat := if f < F then (if d f < N then some (d f) else none) else none
def wv (a : Nat → Int32) (F N : Nat) (d : Nat → Nat) : Prop := ∀ f, f < F → d f = 6 ∨ (d f < N ∧ 0 < wz a f (d f))
def gz (a : Nat → Int32) (F N : Nat) (w : Nat → Option Nat) : Prop := gs_st F N (fun x y => 0 < wz a x y) (wz a) (fz a) w
def dgs (c : Nat) : Nat → Nat := fun f => c / 7 ^ f % 7
theorem wd_some {F N : Nat} {d : Nat → Nat} {f n : Nat} (h : wd F N d f = some n) : f < F ∧ n < N ∧ d f = n := by
  unfold wd at h
  split at h
  · rename_i h1
    split at h
    · rename_i h2
      have h := Option.some.inj h
      exact ⟨h1, by omega, h⟩
    · cases h
  · cases h
theorem wd_p {F N : Nat} {d : Nat → Nat} {f : Nat} (h1 : f < F) (h2 : d f < N) : wd F N d f = some (d f) := by
  unfold wd
  rw [if_pos h1, if_pos h2]
theorem st_iff {a : Nat → Int32} {F N : Nat} {w : Nat → Option Nat} (hs : ∀ f n, w f = some n → f < F ∧ n < N ∧ 0 < wz a f n) : gz a F N w ↔ (w_inj w F ∧ ct_out (fun f => ct_in (fun n => prz a w F f n) N) F = 0) := by
  constructor
  · rintro ⟨h1, h2, h3⟩
    refine ⟨fun f g n _ _ h4 h5 => h2 f g n h4 h5, (ct_zero2 _ _).mpr (fun f hf => (ct_zero _ _).mpr (fun n hn => ?_))⟩
    cases hp : prz a w F f n with
    | false => rfl
    | true =>
      unfold prz at hp
      rw [Bool.and_eq_true, Bool.and_eq_true, decide_eq_true_eq] at hp
      obtain ⟨p1, p2, p3⟩ := hp
      obtain ⟨a', q1, q2⟩ := h3 f n hf hn p1 (fun b' hb => by
        rw [hb] at p2
        exact gs_b_iff.mp p2)
      cases ho : own w n F with
      | none => exact absurd q1 (own_none ho a' (hs a' n q1).1)
      | some g =>
        have hg := (own_some ho).2.1
        have := h2 g a' n hg q1
        rw [ho, this] at p3
        exact absurd (gs_b_iff.mp p3) q2
  · rintro ⟨h1, h2⟩
    refine ⟨fun f n h => ⟨(hs f n h).1, (hs f n h).2.1, (hs f n h).2.2⟩, fun f g n h4 h5 => h1 f g n (hs f n h4).1 (hs g n h5).1 h4 h5, fun f n hf hn hacc hp => ?_⟩
    have hz := (ct_zero _ _).mp ((ct_zero2 _ _).mp h2 f hf) n hn
    have hz : prz a w F f n = false := hz
    unfold prz at hz
    have hacc : 0 < wz a f n := hacc
    have c2 : gs_o (wz a) f n (w f) = true := by
      cases hw : w f with
      | none => rfl
      | some b' => exact gs_b_iff.mpr (hp b' hw)
    rw [decide_eq_true hacc, c2, Bool.true_and, Bool.true_and] at hz
    cases ho : own w n F with
    | none => rw [ho] at hz; cases hz
    | some g =>
      rw [ho] at hz
      have hz : gs_b (fz a) n f g = false := hz
      exact ⟨g, (own_some ho).2.1, fun q => by rw [gs_b_iff.mpr q] at hz; cases hz⟩
theorem dgs_lt (c f : Nat) : dgs c f < 7 := Nat.mod_lt _ (by decide)
theorem pw7 : ∀ F, F ≤ 5 → 7 ^ F ≤ 16807 := by decide
section WY
variable {μm : PM} {F N : Nat}
theorem wv_s {a : Nat → Int32} {d : Nat → Nat} (h : wv a F N d) (hN : N ≤ 6) : ∀ f n, wd F N d f = some n → f < F ∧ n < N ∧ 0 < wz a f n := fun f n q => by
  obtain ⟨h1, h2, h3⟩ := wd_some q
  rcases h f h1 with h4 | h4
  · omega
  · rw [← h3]
    exact ⟨h1, h4.1, h4.2⟩
theorem q_digs (hO : OB (μm.1 402)) (eF : μm.1 402 1 = nI F) (hF : F ≤ 5) (eN : μm.1 402 0 = nI N) (hN : N ≤ 6) (c : Nat) (hc : c < 16808) : ∀ k f μ fuel, f + k = F → (∀ x, x ≠ 411 → μ.1 x = μm.1 x) → (∀ g, g < f → μ.1 411 g = nI (dgs c g) ∧ (dgs c g = 6 ∨ (dgs c g < N ∧ 0 < wz (μm.1 402) g (dgs c g)))) → k < fuel →
    ∃ r, lp (fun s : Int32 × Int32 × PM => lbX12_isWay_4 (nI c) s.1 s.2.1 s.2.2) fuel (nI (c / 7 ^ f), nI f, μ) = some r ∧ ((∃ μ', r = .inl μ' ∧ wv (μm.1 402) F N (dgs c) ∧ (∀ x, x ≠ 411 → μ'.1 x = μm.1 x) ∧ ∀ g, g < F → μ'.1 411 g = nI (dgs c g)) ∨ (∃ μ', r = .inr (0, μ') ∧ ¬ wv (μm.1 402) F N (dgs c) ∧ ∀ x, x ≠ 411 → μ'.1 x = μm.1 x)) := by
  intro k
  induction k with
  | zero =>
    intro f μ fuel hf hfr hg hfu
    obtain ⟨fu, rfl⟩ : ∃ fu, fuel = fu + 1 := ⟨fuel - 1, by omega⟩
    have e : f = F := by omega
    subst e
    refine ⟨.inl μ, lp_e ?_, Or.inl ⟨μ, rfl, fun g h => (hg g h).2, hfr, fun g h => (hg g h).1⟩⟩
    show lbX12_isWay_4 (nI c) (nI (c / 7 ^ f)) (nI f) μ = _
    unfold lbX12_isWay_4
    rw [hfr 402 (by omega), eF, if_pos (by rw [le_n (by omega) (by omega)]; omega)]
  | succ k ih =>
    intro f μ fuel hf hfr hg hfu
    obtain ⟨fu, rfl⟩ : ∃ fu, fuel = fu + 1 := ⟨fuel - 1, by omega⟩
    have hd := dgs_lt c f
    have hcl : c / 7 ^ f ≤ c := Nat.div_le_self _ _
    have e1 : jrem (nI (c / 7 ^ f)) 7 = nI (dgs c f) := rem_l (n := 7) (by omega) (by omega)
    have e2 : nI (c / 7 ^ f) / 7 = nI (c / 7 ^ (f + 1)) := by
      rw [div_l (n := 7) (by omega) (by omega), Nat.div_div_eq_div_mul, Nat.pow_succ]
    have f402 : (pm_wi μ 411 f (nI (dgs c f))).1 402 = μm.1 402 := by rw [wi_c (by omega)]; exact hfr 402 (by omega)
    have body : lbX12_isWay_4 (nI c) (nI (c / 7 ^ f)) (nI f) μ = if dgs c f = 6 then some (.inl (nI (c / 7 ^ (f + 1)), nI (f + 1), pm_wi μ 411 f (nI (dgs c f)))) else if dgs c f < N ∧ 0 < wz (μm.1 402) f (dgs c f) then some (.inl (nI (c / 7 ^ (f + 1)), nI (f + 1), pm_wi μ 411 f (nI (dgs c f)))) else some (.inr (.inr (0, pm_wi μ 411 f (nI (dgs c f))))) := by
      unfold lbX12_isWay_4
      simp only [go_let]
      rw [hfr 402 (by omega), eF, if_neg (by rw [le_n (by omega) (by omega)]; omega), chk_n (show f < 5 by omega) (by omega), chk_n (show f < 5 by omega) (by omega), cl_n (show f < 2147483648 by omega), e1, e2, wi_e, add_l 1]
      by_cases h6 : dgs c f = 6
      · rw [if_pos h6, if_pos (show nI (dgs c f) = 6 by rw [h6]; rfl)]
      · rw [if_neg h6, if_neg (fun q => h6 ((eq_l (n := 6) (by omega) (by omega)).mp q)), chk_n (show f < 5 by omega) (by omega), q_nameM (by rw [f402]; exact hO), q_ite, f402, eN, ti_n (show dgs c f < 2147483648 by omega), ti_n (show N < 2147483648 by omega), chk_n (show f < 5 by omega) (by omega)]
        by_cases hN2 : dgs c f < N
        · rw [if_pos (show (0 : Int) ≤ (dgs c f : Int) ∧ (dgs c f : Int) < (N : Int) by omega), q_wantM (by omega) (by omega), Option.bind_some, f402]
          have hw := ob_want hO (n := 6 * f + dgs c f) (by omega)
          have hz : μm.1 402 (52 + (6 * f + dgs c f)) = 0 ↔ ¬ 0 < wz (μm.1 402) f (dgs c f) := by
            unfold wz
            rw [i_eq, show (0 : Int32).toInt = 0 from rfl]
            omega
          by_cases hp : 0 < wz (μm.1 402) f (dgs c f)
          · rw [if_neg (fun q => hz.mp q hp), if_pos ⟨hN2, hp⟩]
          · rw [if_pos (hz.mpr hp), if_neg (fun q => hp q.2)]
        · rw [if_neg (show ¬ ((0 : Int) ≤ (dgs c f : Int) ∧ (dgs c f : Int) < (N : Int)) by omega), if_neg (fun q => hN2 q.1)]
    have hfr2 : ∀ x, x ≠ 411 → (pm_wi μ 411 f (nI (dgs c f))).1 x = μm.1 x := fun x hx => by rw [wi_c hx]; exact hfr x hx
    have on : (dgs c f = 6 ∨ (dgs c f < N ∧ 0 < wz (μm.1 402) f (dgs c f))) → ∀ g, g < f + 1 → (pm_wi μ 411 f (nI (dgs c f))).1 411 g = nI (dgs c g) ∧ (dgs c g = 6 ∨ (dgs c g < N ∧ 0 < wz (μm.1 402) g (dgs c g))) := fun q g hg2 => by
      by_cases e : g = f
      · subst e
        exact ⟨wi_e, q⟩
      · rw [wi_i e]
        exact hg g (by omega)
    by_cases h6 : dgs c f = 6
    · rw [if_pos h6] at body
      rw [lp_l (s' := (nI (c / 7 ^ (f + 1)), nI (f + 1), pm_wi μ 411 f (nI (dgs c f)))) body]
      exact ih (f + 1) _ fu (by omega) hfr2 (on (Or.inl h6)) (by omega)
    · rw [if_neg h6] at body
      by_cases hN2 : dgs c f < N ∧ 0 < wz (μm.1 402) f (dgs c f)
      · rw [if_pos hN2] at body
        rw [lp_l (s' := (nI (c / 7 ^ (f + 1)), nI (f + 1), pm_wi μ 411 f (nI (dgs c f)))) body]
        exact ih (f + 1) _ fu (by omega) hfr2 (on (Or.inr hN2)) (by omega)
      · rw [if_neg hN2] at body
        refine ⟨_, lp_e body, Or.inr ⟨_, rfl, fun q => ?_, hfr2⟩⟩
        rcases q f (by omega) with q | q
        · exact h6 q
        · exact hN2 q
theorem q_way (hO : OB (μm.1 402)) (eF : μm.1 402 1 = nI F) (hF : F ≤ 5) (eN : μm.1 402 0 = nI N) (hN : N ≤ 6) {c : Nat} (hc : c < 16808) : ∃ q μ', fX12_isWay μm (nI c) = some (q, μ') ∧ (∀ x, x ≠ 411 → x ≠ 412 → μ'.1 x = μm.1 x) ∧ ((q = 1 ∧ wv (μm.1 402) F N (dgs c) ∧ gz (μm.1 402) F N (wd F N (dgs c)) ∧ ∀ f, f < F → μ'.1 411 f = nI (dgs c f)) ∨ (q = 0 ∧ ¬ (wv (μm.1 402) F N (dgs c) ∧ gz (μm.1 402) F N (wd F N (dgs c))))) := by
  obtain ⟨r, h1, h2⟩ := q_digs hO eF hF eN hN c hc F 0 μm go_fuel (by omega) (fun _ _ => rfl) (fun g hg => by omega) (by unfold go_fuel; omega)
  have h1 : lp (fun s : Int32 × Int32 × PM => lbX12_isWay_4 (nI c) s.1 s.2.1 s.2.2) go_fuel (nI c, 0, μm) = some r := by
    rw [Nat.pow_zero, Nat.div_one] at h1
    exact h1
  unfold fX12_isWay
  rw [h1, Option.bind_some]
  rcases h2 with ⟨μ1, rfl, v1, v2, v3⟩ | ⟨μ1, rfl, v1, v2⟩
  case inr =>
    exact ⟨0, μ1, rfl, fun x hx _ => v2 x hx, Or.inr ⟨rfl, fun q => v1 q.1⟩⟩
  dsimp only [go_cs]
  have e402 := v2 402 (by omega)
  have hr : ∀ f, f < F → encM (μ1.1 411 f) (wd F N (dgs c) f) := fun f hf => by
    rw [v3 f hf]
    unfold wd
    rw [if_pos hf]
    by_cases hd : dgs c f < N
    · rw [if_pos hd]
      exact Or.inr ⟨_, rfl, rfl⟩
    · rw [if_neg hd]
      rcases v1 f hf with q | q
      · exact Or.inl ⟨rfl, Or.inr (by rw [q]; rfl)⟩
      · exact absurd q.1 hd
  have hs := wv_s v1 hN
  obtain ⟨q, μ2, k1, k2, k3⟩ := q_layM (μm := μ1) (w := wd F N (dgs c)) (F := F) (N := N) (by rw [e402]; exact hO) (by rw [e402]; exact eF) hF (by rw [e402]; exact eN) hN hr (fun f y hy => (wd_some hy).2.1)
  have f402 : μ2.1 402 = μm.1 402 := (k2 402 (by omega)).trans e402
  have hfr : ∀ x, x ≠ 411 → x ≠ 412 → μ2.1 x = μm.1 x := fun x q1 q2 => (k2 x q2).trans (v2 x q1)
  rw [k1, Option.bind_some]
  rcases k3 with ⟨rfl, hinj, k4⟩ | ⟨rfl, hinj⟩
  case inr =>
    rw [if_pos rfl]
    exact ⟨0, μ2, rfl, hfr, Or.inr ⟨rfl, fun q => hinj ((st_iff hs).mp q.2).1⟩⟩
  rw [if_neg (show ¬ (1 : Int32) = 0 by decide), q_pairsM (μm := μ2) (w := wd F N (dgs c)) (F := F) (N := N) (by rw [f402]; exact hO) (by rw [f402]; exact eF) hF (by rw [f402]; exact eN) hN (fun f hf => by rw [k2 411 (by omega)]; exact hr f hf) k4 (fun f y hy => by have := (wd_some hy).2.1; omega), Option.bind_some, f402]
  have hcb := ct_out_le (q := fun f => ct_in (fun n => prz (μm.1 402) (wd F N (dgs c)) F f n) N) (m := N) (fun f => ct_in_le _ N) F
  have hcb2 : N * F ≤ 30 := Nat.le_trans (Nat.mul_le_mul hN hF) (by decide)
  by_cases hz : ct_out (fun f => ct_in (fun n => prz (μm.1 402) (wd F N (dgs c)) F f n) N) F = 0
  · rw [if_pos (by rw [hz]; rfl)]
    exact ⟨1, μ2, rfl, hfr, Or.inl ⟨rfl, v1, (st_iff hs).mpr ⟨hinj, hz⟩, fun f hf => by rw [k2 411 (by omega)]; exact v3 f hf⟩⟩
  · rw [if_neg (fun q => hz ((eq_l (n := 0) (by omega) (by omega)).mp q))]
    exact ⟨0, μ2, rfl, hfr, Or.inr ⟨rfl, fun q => hz ((st_iff hs).mp q.2).2⟩⟩
theorem q_codes (eF : μm.1 402 1 = nI F) (hF : F ≤ 5) : fX12_codes μm = some (nI (7 ^ F)) := by
  have hl := lp_cnt (f := fun q : Int32 × Int32 => lbX12_codes_4 μm q.1 q.2) (fun i => (nI (7 ^ i), nI i)) 0 F (nI (7 ^ F)) (fun i _ hi => by
    show lbX12_codes_4 μm (nI (7 ^ i)) (nI i) = _
    unfold lbX12_codes_4
    rw [eF, if_neg (by rw [le_n (by omega) (by omega)]; omega), mul_l 7, add_l 1, Nat.pow_succ]) (by
    show lbX12_codes_4 μm (nI (7 ^ F)) (nI F) = _
    unfold lbX12_codes_4
    rw [eF, if_pos (by rw [le_n (by omega) (by omega)]; omega)]) go_fuel 0 (by omega) (by omega) (by unfold go_fuel; omega)
  have hl : lp (fun q : Int32 × Int32 => lbX12_codes_4 μm q.1 q.2) go_fuel (1, 0) = some (nI (7 ^ F)) := hl
  unfold fX12_codes
  rw [hl]
  rfl
end WY
/-! the number of a way -/
def cdl (d : Nat → Nat) : Nat → Nat → Nat
  | 0, _ => 0
  | k + 1, f => d f + 7 * cdl d k (f + 1)
theorem cdl_lt {d : Nat → Nat} (hd : ∀ f, d f < 7) : ∀ k f, cdl d k f < 7 ^ k := by
  intro k
  induction k with
  | zero => intro f; exact Nat.lt_of_lt_of_le (Nat.zero_lt_one) (Nat.le_refl _)
  | succ k ih =>
    intro f
    have h1 := ih (f + 1)
    have h2 := hd f
    unfold cdl
    rw [Nat.pow_succ]
    omega
theorem cdl_dg {d : Nat → Nat} (hd : ∀ f, d f < 7) : ∀ j k f, j < k → cdl d k f / 7 ^ j % 7 = d (f + j) := by
  intro j
  induction j with
  | zero =>
    intro k f hk
    obtain ⟨k, rfl⟩ : ∃ k', k = k' + 1 := ⟨k - 1, by omega⟩
    have h2 := hd f
    show (d f + 7 * cdl d k (f + 1)) / 7 ^ 0 % 7 = d f
    rw [Nat.pow_zero, Nat.div_one]
    omega
  | succ j ih =>
    intro k f hk
    obtain ⟨k, rfl⟩ : ∃ k', k = k' + 1 := ⟨k - 1, by omega⟩
    have h2 := hd f
    have e : cdl d (k + 1) f / 7 = cdl d k (f + 1) := by
      show (d f + 7 * cdl d k (f + 1)) / 7 = _
      omega
    rw [Nat.pow_succ, Nat.mul_comm, ← Nat.div_div_eq_div_mul, e, ih k (f + 1) (by omega)]
    congr 1
    omega
def dw (w : Nat → Option Nat) (f : Nat) : Nat := match w f with
  | none => 6
  | some n => n
/-- a way that holds has a number -/
theorem way_code {a : Nat → Int32} {F N : Nat} {w : Nat → Option Nat} (hN : N ≤ 6) (h : gz a F N w) : ∃ c, c < 7 ^ F ∧ wv a F N (dgs c) ∧ gz a F N (wd F N (dgs c)) ∧ ∀ f, f < F → wd F N (dgs c) f = w f := by
  have hd : ∀ f, dw w f < 7 := fun f => by
    unfold dw
    cases hw : w f with
    | none => exact Nat.lt_succ_self 6
    | some n => have := (h.1 f n hw).2.1; show n < 7; omega
  have hdg : ∀ f, f < F → dgs (cdl (dw w) F 0) f = dw w f := fun f hf => by
    have := cdl_dg hd f F 0 hf
    rw [Nat.zero_add] at this
    exact this
  have hw : ∀ f, f < F → wd F N (dgs (cdl (dw w) F 0)) f = w f := fun f hf => by
    unfold wd
    rw [if_pos hf, hdg f hf]
    unfold dw
    cases hq : w f with
    | none => rw [if_neg (by show ¬ 6 < N; omega)]
    | some n => rw [if_pos (show n < N from (h.1 f n hq).2.1)]
  have hww : wd F N (dgs (cdl (dw w) F 0)) = w := by
    funext f
    by_cases hf : f < F
    · exact hw f hf
    · unfold wd
      rw [if_neg hf]
      cases hq : w f with
      | none => rfl
      | some n => exact absurd (h.1 f n hq).1 hf
  refine ⟨cdl (dw w) F 0, cdl_lt hd F 0, fun f hf => ?_, by rw [hww]; exact h, hw⟩
  rw [hdg f hf]
  unfold dw
  cases hq : w f with
  | none => exact Or.inl rfl
  | some n => exact Or.inr ⟨(h.1 f n hq).2.1, (h.1 f n hq).2.2⟩
