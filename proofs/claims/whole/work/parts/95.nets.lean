/-! ===== the greatest that two numbers share; NETS ===== -/
theorem gcd_st (p q : Nat) : Nat.gcd p q = Nat.gcd q (p % q) := by
  rw [Nat.gcd_comm p q, Nat.gcd_rec, Nat.gcd_comm]
theorem mod_half {q r : Nat} (h0 : 0 < r) (h : r < q) : q % r * 2 < q := by
  have h1 := Nat.mod_lt q h0
  by_cases h2 : r * 2 ≤ q
  · omega
  · have : q % r = q - r := by
      rw [Nat.mod_eq_sub_mod (by omega), Nat.mod_eq_of_lt (by omega)]
    omega
theorem lp_gcdC (a0 a1 : Int64) : ∀ n p q A B T fuel, Int64.toInt A = (p : Nat) → Int64.toInt B = (q : Nat) → p ≤ 1000000000000 → q ≤ 1000000000000 → q < 2 ^ n → T + 2 * n < 100 → 2 * n < fuel → ∃ g, lp (fun s => lbX11_greatestShared_9 a0 a1 s.1 s.2.1 s.2.2) fuel (A, B, nI T) = some g ∧ g.toInt = (Nat.gcd p q : Int) := by
  have e0 : (0 : Int64).toInt = 0 := by decide
  have stop : ∀ p A B T fuel, Int64.toInt A = (p : Nat) → Int64.toInt B = 0 → T < 100 → 0 < fuel → ∃ g, lp (fun s => lbX11_greatestShared_9 a0 a1 s.1 s.2.1 s.2.2) fuel (A, B, nI T) = some g ∧ g.toInt = (Nat.gcd p 0 : Int) := by
    intro p A B T fuel hA hB hT hf
    obtain ⟨k, rfl⟩ : ∃ k, fuel = k + 1 := ⟨fuel - 1, by omega⟩
    refine ⟨A, lp_e ?_, by rw [hA, Nat.gcd_zero_right]⟩
    show lbX11_greatestShared_9 a0 a1 A B (nI T) = _
    unfold lbX11_greatestShared_9
    rw [if_neg (by rw [l_le (n := 100) (by omega) (by omega)]; omega), if_pos (by rw [lc_eq, e0]; exact hB)]
  have step : ∀ p q A B T, Int64.toInt A = (p : Nat) → Int64.toInt B = (q : Nat) → p ≤ 1000000000000 → q ≤ 1000000000000 → 0 < q → T < 100 → ∃ R, lbX11_greatestShared_9 a0 a1 A B (nI T) = some (.inl (B, R, nI (T + 1))) ∧ R.toInt = ((p % q : Nat) : Int) := by
    intro p q A B T hA hB hp hq h0 hT
    refine ⟨jreml A B, ?_, ?_⟩
    · unfold lbX11_greatestShared_9 go_nzl
      rw [if_neg (by rw [l_le (n := 100) (by omega) (by omega)]; omega), if_neg (by rw [lc_eq, e0]; omega), if_neg (by rw [eq_L, e0]; omega), add_l 1]
      rfl
    · rw [tl_rem (by omega), hA, hB]
      rfl
  intro n
  induction n with
  | zero =>
    intro p q A B T fuel hA hB hp hq hn hT hf
    have : q = 0 := by simp at hn; omega
    subst this
    exact stop p A B T fuel hA hB (by omega) (by omega)
  | succ n ih =>
    intro p q A B T fuel hA hB hp hq hn hT hf
    by_cases h0 : q = 0
    · subst h0
      exact stop p A B T fuel hA hB (by omega) (by omega)
    obtain ⟨R, s1, s2⟩ := step p q A B T hA hB hp hq (by omega) (by omega)
    have hr := Nat.mod_lt p (show 0 < q by omega)
    obtain ⟨k, rfl⟩ : ∃ k, fuel = k + 2 := ⟨fuel - 2, by omega⟩
    rw [lp_l (s' := (B, R, nI (T + 1))) s1, gcd_st]
    by_cases hr0 : p % q = 0
    · rw [hr0] at s2 ⊢
      exact stop q B R (T + 1) (k + 1) hB s2 (by omega) (by omega)
    · obtain ⟨S, s3, s4⟩ := step q (p % q) B R (T + 1) hB s2 hq (by omega) (by omega) (by omega)
      rw [lp_l (s' := (R, S, nI (T + 1 + 1))) s3, gcd_st]
      have hh := mod_half (q := q) (r := p % q) (by omega) hr
      have hr2 := Nat.mod_lt q (show 0 < p % q by omega)
      exact ih (p % q) (q % (p % q)) R S (T + 1 + 1) k s2 s4 (by omega) (by omega) (by rw [Nat.pow_succ] at hn; omega) (by omega) (by omega)
theorem lp_gcdM (a0 a1 : Int64) : ∀ n p q A B fuel, Int64.toInt A = (p : Nat) → Int64.toInt B = (q : Nat) → p ≤ 1000000000000 → q ≤ 1000000000000 → q < 2 ^ n → 2 * n < fuel → ∃ g, lp (fun s => lbX12_divisor_6 a0 a1 s.1 s.2) fuel (A, B) = some g ∧ g.toInt = (Nat.gcd p q : Int) := by
  have e0 : (0 : Int64).toInt = 0 := by decide
  have stop : ∀ p A B fuel, Int64.toInt A = (p : Nat) → Int64.toInt B = 0 → 0 < fuel → ∃ g, lp (fun s => lbX12_divisor_6 a0 a1 s.1 s.2) fuel (A, B) = some g ∧ g.toInt = (Nat.gcd p 0 : Int) := by
    intro p A B fuel hA hB hf
    obtain ⟨k, rfl⟩ : ∃ k, fuel = k + 1 := ⟨fuel - 1, by omega⟩
    refine ⟨A, lp_e ?_, by rw [hA, Nat.gcd_zero_right]⟩
    show lbX12_divisor_6 a0 a1 A B = _
    unfold lbX12_divisor_6
    rw [if_pos (by rw [lc_eq, e0]; exact hB)]
  have step : ∀ p q A B, Int64.toInt A = (p : Nat) → Int64.toInt B = (q : Nat) → p ≤ 1000000000000 → q ≤ 1000000000000 → 0 < q → ∃ R, lbX12_divisor_6 a0 a1 A B = some (.inl (B, R)) ∧ R.toInt = ((p % q : Nat) : Int) := by
    intro p q A B hA hB hp hq h0
    refine ⟨jreml A B, ?_, ?_⟩
    · unfold lbX12_divisor_6 go_nzl
      rw [if_neg (by rw [lc_eq, e0]; omega), if_neg (by rw [eq_L, e0]; omega)]
      rfl
    · rw [tl_rem (by omega), hA, hB]
      rfl
  intro n
  induction n with
  | zero =>
    intro p q A B fuel hA hB hp hq hn hf
    have : q = 0 := by simp at hn; omega
    subst this
    exact stop p A B fuel hA hB (by omega)
  | succ n ih =>
    intro p q A B fuel hA hB hp hq hn hf
    by_cases h0 : q = 0
    · subst h0
      exact stop p A B fuel hA hB (by omega)
    obtain ⟨R, s1, s2⟩ := step p q A B hA hB hp hq (by omega)
    have hr := Nat.mod_lt p (show 0 < q by omega)
    obtain ⟨k, rfl⟩ : ∃ k, fuel = k + 2 := ⟨fuel - 2, by omega⟩
    rw [lp_l (s' := (B, R)) s1, gcd_st]
    by_cases hr0 : p % q = 0
    · rw [hr0] at s2 ⊢
      exact stop q B R (k + 1) hB s2 (by omega)
    · obtain ⟨S, s3, s4⟩ := step q (p % q) B R hB s2 hq (by omega) (by omega)
      rw [lp_l (s' := (R, S)) s3, gcd_st]
      have hh := mod_half (q := q) (r := p % q) (by omega) hr
      have hr2 := Nat.mod_lt q (show 0 < p % q by omega)
      exact ih (p % q) (q % (p % q)) R S k s2 s4 (by omega) (by omega) (by rw [Nat.pow_succ] at hn; omega) (by omega)
theorem q_gcdC {A B : Int64} {p q : Nat} (hA : A.toInt = p) (hB : B.toInt = q) (hp : p ≤ 1000000000000) (hq : q ≤ 1000000000000) : ∃ g, fX11_greatestShared A B = some g ∧ g.toInt = (Nat.gcd p q : Int) := by
  obtain ⟨g, h1, h2⟩ := lp_gcdC A B 40 p q A B 0 go_fuel hA hB hp hq (Nat.lt_of_le_of_lt hq (by decide)) (by omega) (by unfold go_fuel; omega)
  refine ⟨g, ?_, h2⟩
  have h1 : lp (fun s => lbX11_greatestShared_9 A B s.1 s.2.1 s.2.2) go_fuel (A, B, 0) = some g := h1
  unfold fX11_greatestShared
  rw [h1]
  rfl
theorem q_gcdM {A B : Int64} {p q : Nat} (hA : A.toInt = p) (hB : B.toInt = q) (hp : p ≤ 1000000000000) (hq : q ≤ 1000000000000) : ∃ g, fX12_divisor A B = some g ∧ g.toInt = (Nat.gcd p q : Int) := by
  obtain ⟨g, h1, h2⟩ := lp_gcdM A B 40 p q A B go_fuel hA hB hp hq (Nat.lt_of_le_of_lt hq (by decide)) (by unfold go_fuel; omega)
  refine ⟨g, ?_, h2⟩
  unfold fX12_divisor
  rw [h1]
  rfl
/-! NETS of a set -/
def nt_sum (w : Nat → Nat) (s : Nat) : Nat → Nat
  | 0 => 0
  | f + 1 => nt_sum w s f + if s.testBit f = true then w f else 0
theorem nt_le (w : Nat → Nat) (s : Nat) (hw : ∀ f, f < 5 → w f ≤ 9) : ∀ n, n ≤ 5 → nt_sum w s n ≤ 9 * n := by
  intro n
  induction n with
  | zero => intro _; exact Nat.le_refl _
  | succ n ih =>
    intro hn
    have := ih (by omega)
    have := hw n (by omega)
    unfold nt_sum
    split <;> omega
section NT
variable {μc μm : PM}
def nt_w (μ : PM) (f : Nat) : Nat := (μ.1 402 (42 + f)).toNatClampNeg
theorem nt_wb (hO : OB (μm.1 402)) {f : Nat} (hf : f < 5) : μm.1 402 (42 + f) = nI (nt_w μm f) ∧ nt_w μm f ≤ 9 := by
  have := ob_net hO hf
  have h2 := ti_cl this.1
  exact ⟨nI_cl this.1, by unfold nt_w; omega⟩
theorem q_sumC {F s : Nat} (hV : VF μc 1 (μm.1 402)) (hO : OB (μm.1 402)) (eF : μm.1 402 1 = nI F) (hF : F ≤ 5) (hs : s < 2147483648) : fX3_sumOf μc (nI s) = some (nI (nt_sum (nt_w μm) s F)) := by
  have hl := lp_cnt (f := fun q : Int32 × Int32 => lbX3_sumOf_4 μc (nI s) q.1 q.2) (fun i => (nI (nt_sum (nt_w μm) s i), nI i)) 0 F (nI (nt_sum (nt_w μm) s F)) (fun i _ hi => by
    show lbX3_sumOf_4 μc (nI s) (nI (nt_sum (nt_w μm) s i)) (nI i) = _
    unfold lbX3_sumOf_4
    simp only [go_let]
    rw [v1_families hV, eF, if_neg (by rw [le_n (by omega) (by omega)]; omega), if_neg (by rw [l_le (n := 5) (by omega) (by omega)]; omega), bitE, nb_has hs (by omega), q_ite, chk_n (by omega) (by omega), cl_n (by omega), v1_net hV (by omega), (nt_wb hO (by omega)).1, nI_add, add_l 1]
    have e : nt_sum (nt_w μm) s (i + 1) = nt_sum (nt_w μm) s i + if s.testBit i = true then nt_w μm i else 0 := rfl
    rw [e]
    by_cases hb : s.testBit i = true
    · rw [if_pos hb, if_pos hb]
    · rw [if_neg hb, if_neg hb]
      rfl) (by
    show lbX3_sumOf_4 μc (nI s) (nI (nt_sum (nt_w μm) s F)) (nI F) = _
    unfold lbX3_sumOf_4
    rw [v1_families hV, eF, if_pos (by rw [le_n (by omega) (by omega)]; omega)]) go_fuel 0 (by omega) (by omega) (by unfold go_fuel; omega)
  have hl : lp (fun q : Int32 × Int32 => lbX3_sumOf_4 μc (nI s) q.1 q.2) go_fuel (0, 0) = some (nI (nt_sum (nt_w μm) s F)) := hl
  unfold fX3_sumOf
  rw [hl]
  rfl
theorem q_muchM {F s : Nat} (hO : OB (μm.1 402)) (eF : μm.1 402 1 = nI F) (hF : F ≤ 5) (hs : s < 2147483648) : fX12_isMuch μm (nI s) = some (if nI (nt_sum (nt_w μm) s F) < μm.1 402 125 then 0 else 1) := by
  have hl := lp_cnt (f := fun q : Int32 × Int32 => lbX12_isMuch_4 μm (nI s) q.1 q.2) (fun i => (nI (nt_sum (nt_w μm) s i), nI i)) 0 F (.inl (nI (nt_sum (nt_w μm) s F))) (fun i _ hi => by
    show lbX12_isMuch_4 μm (nI s) (nI (nt_sum (nt_w μm) s i)) (nI i) = _
    unfold lbX12_isMuch_4 jjX12_isMuch_36_4
    rw [eF, if_neg (by rw [le_n (by omega) (by omega)]; omega), nb_has hs (by omega), q_ite, l_add 42, chk_n (by omega) (by omega), cl_n (by omega), (nt_wb hO (by omega)).1, nI_add, add_l 1, add_l 0]
    have e : nt_sum (nt_w μm) s (i + 1) = nt_sum (nt_w μm) s i + if s.testBit i = true then nt_w μm i else 0 := rfl
    rw [e]
    by_cases hb : s.testBit i = true
    · rw [if_pos hb, if_pos hb]
    · rw [if_neg hb, if_neg hb]) (by
    show lbX12_isMuch_4 μm (nI s) (nI (nt_sum (nt_w μm) s F)) (nI F) = _
    unfold lbX12_isMuch_4
    rw [eF, if_pos (by rw [le_n (by omega) (by omega)]; omega)]) go_fuel 0 (by omega) (by omega) (by unfold go_fuel; omega)
  have hl : lp (fun q : Int32 × Int32 => lbX12_isMuch_4 μm (nI s) q.1 q.2) go_fuel (0, 0) = some (.inl (nI (nt_sum (nt_w μm) s F))) := hl
  unfold fX12_isMuch
  rw [hl, Option.bind_some]
  dsimp only [go_cs]
  split <;> rfl
theorem q_much {F s : Nat} (hV : VF μc 1 (μm.1 402)) (hO : OB (μm.1 402)) (eF : μm.1 402 1 = nI F) (hF : F ≤ 5) (hs : s < 2147483648) : ∃ b : Bool, fX3_reachesQuota μc (nI s) = some (if b = true then 1 else 0) ∧ fX12_isMuch μm (nI s) = some (if b = true then 1 else 0) := by
  rw [q_muchM hO eF hF hs]
  unfold fX3_reachesQuota
  rw [q_sumC hV hO eF hF hs, Option.bind_some, v1_quota hV]
  by_cases h : nI (nt_sum (nt_w μm) s F) < μm.1 402 125
  · exact ⟨false, by rw [if_pos h]; rfl, by rw [if_pos h]; rfl⟩
  · exact ⟨true, by rw [if_neg h]; rfl, by rw [if_neg h]; rfl⟩
end NT
theorem nb_01 {b : Bool} {α : Type} {A B : α} : (if (if b = true then (1 : Int32) else 0) = 0 then A else B) = if b = true then B else A := q_ite
theorem pw_le : ∀ F, F ≤ 5 → 2 ^ F ≤ 32 := by decide
theorem c_coalitions {μc μm : PM} (h : RR μc μm) : ∃ r, fX11_coalitions μc = some r ∧ fX12_coalitions μm = some r := by
  have hV := h.1.1
  have hO := h.1.2.2.2.1
  have hfb := ob_families hO
  obtain ⟨F, eF, hF, -⟩ := nz_of (v := μm.1 402 1) (k := 6) hfb.1 (by omega)
  have hp := pw_le F (by omega)
  obtain ⟨r, r', k1, k2, k3⟩ := lp_two (f := fun q : Int32 × Int32 => lbX11_coalitions_4 μc q.1 q.2) (g := fun q : Int32 × Int32 => lbX12_coalitions_4 μm q.1 q.2) (fun s t => s = t ∧ ∃ k : Nat, k ≤ 2 ^ F ∧ s.2 = nI k) (fun s => 2 ^ F - s.2.toNatClampNeg) (fun r r' => r = r')
    (fun s t hI => by
      obtain ⟨s1, s2⟩ := s
      obtain ⟨rfl, k, hk, e⟩ := hI
      have e : s2 = nI k := e
      subst e
      dsimp only
      unfold lbX11_coalitions_4 lbX12_coalitions_4 jjX12_coalitions_30_4
      rw [v1_families hV, eF, nb_shl F (by omega)]
      have hle : nI (2 ^ F) ≤ nI k ↔ 2 ^ F ≤ k := le_n (by omega) (by omega)
      by_cases hlt : 2 ^ F ≤ k
      · right
        rw [if_pos (hle.mpr hlt), if_pos (hle.mpr hlt)]
        exact ⟨_, _, rfl, rfl, rfl⟩
      · left
        rw [if_neg (fun q => hlt (hle.mp q)), if_neg (fun q => hlt (hle.mp q))]
        obtain ⟨b, b1, b2⟩ := q_much hV hO eF (by omega) (show k < 2147483648 by omega)
        have dec : 2 ^ F - (nI (k + 1)).toNatClampNeg < 2 ^ F - (nI k).toNatClampNeg := by rw [cl_n (by omega), cl_n (by omega)]; omega
        rw [b1, b2, Option.bind_some, Option.bind_some, nb_01, nb_01, add_l 1]
        cases b with
        | true =>
          rw [if_pos rfl, if_pos rfl]
          exact ⟨_, _, rfl, rfl, ⟨rfl, k + 1, by omega, rfl⟩, dec⟩
        | false =>
          rw [if_neg (by decide), if_neg (by decide), Int32.add_zero]
          exact ⟨_, _, rfl, rfl, ⟨rfl, k + 1, by omega, rfl⟩, dec⟩)
    go_fuel go_fuel (0, 0) (0, 0) ⟨rfl, 0, Nat.zero_le _, rfl⟩ (by show 2 ^ F - _ < go_fuel; unfold go_fuel; omega) (by show 2 ^ F - _ < go_fuel; unfold go_fuel; omega)
  subst k3
  refine ⟨r, ?_, ?_⟩
  · unfold fX11_coalitions
    rw [k1]
    rfl
  · unfold fX12_coalitions
    rw [k2]
    rfl
theorem c_veto {μc μm : PM} (h : RR μc μm) : ∃ r, fX11_veto μc = some r ∧ fX12_veto μm = some r := by
  have hV := h.1.1
  have hO := h.1.2.2.2.1
  have hfb := ob_families hO
  obtain ⟨F, eF, hF, -⟩ := nz_of (v := μm.1 402 1) (k := 6) hfb.1 (by omega)
  have hp := pw_le F (by omega)
  have hp1 : 1 ≤ 2 ^ F := Nat.one_le_two_pow
  have e1 : nI (2 ^ F) - 1 = nI (2 ^ F - 1) := subm1 hp1
  obtain ⟨r, r', k1, k2, k3⟩ := lp_two (f := fun q : Int32 × Int32 => lbX11_veto_14 μc q.1 q.2) (g := fun q : Int32 × Int32 => lbX12_veto_15 μm (nI (2 ^ F - 1)) q.1 q.2) (fun s t => s = t ∧ ∃ k : Nat, k ≤ 2 ^ F ∧ s.2 = nI k) (fun s => 2 ^ F - s.2.toNatClampNeg) (fun r r' => r = r')
    (fun s t hI => by
      obtain ⟨s1, s2⟩ := s
      obtain ⟨rfl, k, hk, e⟩ := hI
      have e : s2 = nI k := e
      subst e
      dsimp only
      unfold lbX11_veto_14 lbX12_veto_15
      rw [v1_families hV, eF, nb_shl F (by omega)]
      have hle : nI (2 ^ F) ≤ nI k ↔ 2 ^ F ≤ k := le_n (by omega) (by omega)
      have hlt2 : nI (2 ^ F - 1) < nI k ↔ 2 ^ F - 1 < k := lt_n (by omega) (by omega)
      by_cases hlt : 2 ^ F ≤ k
      · right
        rw [if_pos (hle.mpr hlt), if_pos (hlt2.mpr (by omega))]
        exact ⟨_, _, rfl, rfl, rfl⟩
      · left
        rw [if_neg (fun q => hlt (hle.mp q)), if_neg (fun q => hlt (by have := hlt2.mp q; omega))]
        obtain ⟨b, b1, b2⟩ := q_much hV hO eF (by omega) (show k < 2147483648 by omega)
        have dec : 2 ^ F - (nI (k + 1)).toNatClampNeg < 2 ^ F - (nI k).toNatClampNeg := by rw [cl_n (by omega), cl_n (by omega)]; omega
        rw [b1, b2, Option.bind_some, nb_01, add_l 1]
        cases b with
        | true =>
          rw [if_pos rfl]
          exact ⟨_, _, rfl, rfl, ⟨rfl, k + 1, by omega, rfl⟩, dec⟩
        | false =>
          rw [if_neg (by decide)]
          exact ⟨_, _, rfl, rfl, ⟨rfl, k + 1, by omega, rfl⟩, dec⟩)
    go_fuel go_fuel (nI (2 ^ F - 1), 0) (nI (2 ^ F - 1), 0) ⟨rfl, 0, Nat.zero_le _, rfl⟩ (by show 2 ^ F - _ < go_fuel; unfold go_fuel; omega) (by show 2 ^ F - _ < go_fuel; unfold go_fuel; omega)
  subst k3
  refine ⟨r, ?_, ?_⟩
  · unfold fX11_veto
    simp only [go_let]
    rw [v1_families hV, eF, nb_shl F (by omega), e1, k1]
    rfl
  · unfold fX12_veto
    simp only [go_let]
    rw [eF, nb_shl F (by omega), e1, k2]
    rfl
theorem q_ord : ∀ j, j < 6 → fX12_orders (nI j) = some (go_fc (nI j)) ∧ 1 ≤ (go_fc (nI j)).toInt ∧ (go_fc (nI j)).toInt ≤ 120 := by decide +kernel
theorem q_bc : ∀ F : Nat, F < 6 → ∀ f : Nat, f < F → ∀ k : Nat, k < 2 ^ F → k.testBit f = false → 0 ≤ (fJ6_bitCount_0f7a4 (nI k)).toInt ∧ (fJ6_bitCount_0f7a4 (nI k)).toInt < (F : Int) := by decide +kernel
theorem pv_both {μc μm : PM} {F f : Nat} (hV : VF μc 1 (μm.1 402)) (hO : OB (μm.1 402)) (eF : μm.1 402 1 = nI F) (hF : F ≤ 5) (hf : f < F) : ∃ r, fX3_countPivots μc (nI f) = some r ∧ fX12_powerOf μm (nI f) = some r ∧ 0 ≤ r.toInt ∧ r.toInt ≤ 460800 := by
  have hp := pw_le F hF
  have ej : jmin (nI F) 5 = nI F := by
    unfold jmin
    rw [if_neg]
    rw [l_lt (n := 5) (by omega) (by omega)]
    omega
  obtain ⟨r, r', k1, k2, k3⟩ := lp_two (f := fun q : Int32 × Int32 => lbX3_countPivots_31 μc (nI f) (nI F) q.1 q.2) (g := fun q : Int32 × Int32 => lbX12_powerOf_12 μm (nI f) (nI F) q.1 q.2) (fun s t => s = t ∧ ∃ k : Nat, k ≤ 2 ^ F ∧ s.2 = nI k ∧ 0 ≤ s.1.toInt ∧ s.1.toInt ≤ 14400 * k) (fun s => 2 ^ F - s.2.toNatClampNeg) (fun r r' => r = r' ∧ 0 ≤ r.toInt ∧ r.toInt ≤ 460800)
    (fun s t hI => by
      obtain ⟨s1, s2⟩ := s
      obtain ⟨rfl, k, hk, e, hb1, hb2⟩ := hI
      have e : s2 = nI k := e
      have hb1 : 0 ≤ s1.toInt := hb1
      have hb2 : s1.toInt ≤ 14400 * k := hb2
      subst e
      dsimp only
      unfold lbX3_countPivots_31 lbX12_powerOf_12 jjX3_countPivots_105_31
      simp only [go_let]
      rw [nb_shl F (by omega), nb_shl f (by omega)]
      have hle : nI (2 ^ F) ≤ nI k ↔ 2 ^ F ≤ k := le_n (by omega) (by omega)
      by_cases hlt : 2 ^ F ≤ k
      · right
        rw [if_pos (hle.mpr hlt), if_pos (hle.mpr hlt)]
        exact ⟨_, _, rfl, rfl, rfl, hb1, by omega⟩
      · left
        have dec : 2 ^ F - (nI (k + 1)).toNatClampNeg < 2 ^ F - (nI k).toNatClampNeg := by rw [cl_n (by omega), cl_n (by omega)]; omega
        have next : ∃ s' t', (some (Sum.inl (s1, nI (k + 1))) : Option ((Int32 × Int32) ⊕ Int32)) = some (.inl s') ∧ (some (Sum.inl (s1, nI (k + 1))) : Option ((Int32 × Int32) ⊕ Int32)) = some (.inl t') ∧ (s' = t' ∧ ∃ k : Nat, k ≤ 2 ^ F ∧ s'.2 = nI k ∧ 0 ≤ s'.1.toInt ∧ s'.1.toInt ≤ 14400 * k) ∧ 2 ^ F - s'.2.toNatClampNeg < 2 ^ F - (nI k).toNatClampNeg := ⟨_, _, rfl, rfl, ⟨rfl, k + 1, by omega, rfl, hb1, by show s1.toInt ≤ _; omega⟩, dec⟩
        rw [if_neg (fun q => hlt (hle.mp q)), if_neg (fun q => hlt (hle.mp q)), bitE, nb_has (by omega) (by omega), q_ite, q_ite, add_l 1]
        by_cases hbit : k.testBit f = true
        · rw [if_pos hbit, if_pos hbit]
          exact next
        rw [if_neg hbit, if_neg hbit, nx_or]
        have hor : k ||| 2 ^ f < 2 ^ 5 := nb_or_lt (by omega) (by omega)
        obtain ⟨b, b1, b2⟩ := q_much hV hO eF hF (show k < 2147483648 by omega)
        obtain ⟨d, d1, d2⟩ := q_much hV hO eF hF (show k ||| 2 ^ f < 2147483648 by omega)
        rw [b1, b2, Option.bind_some, Option.bind_some, nb_01, nb_01]
        cases b with
        | true =>
          rw [if_pos rfl, if_pos rfl]
          exact next
        | false =>
          rw [if_neg (show ¬ (false = true) by decide), if_neg (show ¬ (false = true) by decide), d1, d2, Option.bind_some, Option.bind_some, nb_01, nb_01]
          cases d with
          | false =>
            rw [if_neg (by decide), if_neg (by decide)]
            exact next
          | true =>
            rw [if_pos rfl, if_pos rfl]
            obtain ⟨c1, c2⟩ := q_bc F (by omega) f hf k (by omega) (by simpa using hbit)
            rw [(q_bits k (by omega)).1]
            simp only [Option.bind_some]
            obtain ⟨z, ez, hz, -⟩ := nz_of (v := fJ6_bitCount_0f7a4 (nI k)) (k := F) c1 c2
            rw [ez, (q_ord z (by omega)).1]
            simp only [Option.bind_some]
            rw [if_neg (show ¬ nI F ≤ nI z by rw [le_n (by omega) (by omega)]; omega), subm1 (show 1 ≤ F by omega), nI_subI (show z ≤ F - 1 by omega), chk_n (show z < 6 by omega) (by omega), chk_n (show F - 1 - z < 6 by omega) (by omega), (q_ord (F - 1 - z) (by omega)).1, Option.bind_some]
            have o1 := (q_ord z (by omega)).2
            have o2 := (q_ord (F - 1 - z) (by omega)).2
            have om1 : 0 ≤ (go_fc (nI z)).toInt * (go_fc (nI (F - 1 - z))).toInt := Int.mul_nonneg (by omega) (by omega)
            have om2 : (go_fc (nI z)).toInt * (go_fc (nI (F - 1 - z))).toInt ≤ 120 * 120 := Int.mul_le_mul o1.2 o2.2 (by omega) (by omega)
            have tm : (go_fc (nI z) * go_fc (nI (F - 1 - z))).toInt = (go_fc (nI z)).toInt * (go_fc (nI (F - 1 - z))).toInt := ti_mul (by omega) (by omega)
            have ta : (s1 + go_fc (nI z) * go_fc (nI (F - 1 - z))).toInt = s1.toInt + (go_fc (nI z)).toInt * (go_fc (nI (F - 1 - z))).toInt := by rw [ti_add (by omega) (by omega), tm]
            exact ⟨_, _, rfl, rfl, ⟨rfl, k + 1, by omega, rfl, by show 0 ≤ (s1 + _).toInt; omega, by show (s1 + _).toInt ≤ _; omega⟩, dec⟩)
    go_fuel go_fuel (0, 0) (0, 0) ⟨rfl, 0, Nat.zero_le _, rfl, by decide, by decide⟩ (by show 2 ^ F - _ < go_fuel; unfold go_fuel; omega) (by show 2 ^ F - _ < go_fuel; unfold go_fuel; omega)
  obtain ⟨rfl, k3, k4⟩ := k3
  refine ⟨r, ?_, ?_, k3, k4⟩
  · unfold fX3_countPivots
    simp only [go_let]
    rw [v1_families hV, eF, ej, if_neg (nI_pos (by omega)), if_pos (by rw [lt_n (by omega) (by omega)]; exact hf), k1]
    rfl
  · unfold fX12_powerOf
    rw [eF, k2]
    rfl
theorem c_dummies {μc μm : PM} (h : RR μc μm) : ∃ r, fX11_dummies μc = some r ∧ fX12_dummies μm = some r := by
  have hV := h.1.1
  have hO := h.1.2.2.2.1
  have hfb := ob_families hO
  obtain ⟨F, eF, hF, -⟩ := nz_of (v := μm.1 402 1) (k := 6) hfb.1 (by omega)
  obtain ⟨r, r', k1, k2, k3⟩ := lp_two (f := fun q : Int32 × Int32 => lbX11_dummies_4 μc q.1 q.2) (g := fun q : Int32 × Int32 => lbX12_dummies_4 μm q.1 q.2) (fun s t => s = t ∧ ∃ k : Nat, k ≤ F ∧ s.2 = nI k) (fun s => F - s.2.toNatClampNeg) (fun r r' => r = r')
    (fun s t hI => by
      obtain ⟨s1, s2⟩ := s
      obtain ⟨rfl, k, hk, e⟩ := hI
      have e : s2 = nI k := e
      subst e
      dsimp only
      unfold lbX11_dummies_4 lbX12_dummies_4 jjX12_dummies_30_4
      simp only [go_let]
      rw [v1_families hV, eF]
      have hle : nI F ≤ nI k ↔ F ≤ k := le_n (by omega) (by omega)
      by_cases hlt : F ≤ k
      · right
        rw [if_pos (hle.mpr hlt), if_pos (hle.mpr hlt)]
        exact ⟨_, _, rfl, rfl, rfl⟩
      · left
        rw [if_neg (fun q => hlt (hle.mp q)), if_neg (fun q => hlt (hle.mp q))]
        obtain ⟨q, b1, b2, -, -⟩ := pv_both hV hO eF (by omega) (show k < F by omega)
        have dec : F - (nI (k + 1)).toNatClampNeg < F - (nI k).toNatClampNeg := by rw [cl_n (by omega), cl_n (by omega)]; omega
        rw [b1, b2, Option.bind_some, Option.bind_some, add_l 1]
        by_cases hq : q = 0
        · rw [if_pos hq, if_pos hq]
          exact ⟨_, _, rfl, rfl, ⟨rfl, k + 1, by omega, rfl⟩, dec⟩
        · rw [if_neg hq, if_neg hq, Int32.or_zero]
          exact ⟨_, _, rfl, rfl, ⟨rfl, k + 1, by omega, rfl⟩, dec⟩)
    go_fuel go_fuel (0, 0) (0, 0) ⟨rfl, 0, by omega, rfl⟩ (by show F - _ < go_fuel; unfold go_fuel; omega) (by show F - _ < go_fuel; unfold go_fuel; omega)
  subst k3
  refine ⟨r, ?_, ?_⟩
  · unfold fX11_dummies
    rw [k1]
    rfl
  · unfold fX12_dummies
    rw [k2]
    rfl
theorem c_power (v l : Int32) {μc μm : PM} (h : RR μc μm) : ∃ r, fX11_power μc v l = some r ∧ fX12_power μm v l = some r := by
  have hV := h.1.1
  have hO := h.1.2.2.2.1
  have hfb := ob_families hO
  obtain ⟨F, eF, hF, -⟩ := nz_of (v := μm.1 402 1) (k := 6) hfb.1 (by omega)
  unfold fX11_power fX12_power jjX12_power_33
  rw [q_famC hV hO, q_famM hO, q_ite, q_ite]
  by_cases hf : 0 ≤ v.toInt ∧ v.toInt < (μm.1 402 1).toInt
  case neg =>
    rw [if_neg hf, if_neg hf]
    exact ⟨-1, rfl, rfl⟩
  rw [if_pos hf, if_pos hf]
  obtain ⟨f, rfl, hf5, hf6⟩ := nz_of (v := v) (k := F) hf.1 (by have := hf.2; rw [eF, ti_n (by omega)] at this; exact this)
  obtain ⟨q, b1, b2, b3, b4⟩ := pv_both hV hO eF (by omega) (show f < F by omega)
  obtain ⟨o0, o1, o2⟩ := q_ord F (by omega)
  simp only [go_let]
  rw [v1_families hV, eF, if_neg (show ¬ nI F < 0 from nI_pos (by omega)), if_pos (show nI F < 6 by rw [lt_l (n := 6) (by omega) (by omega)]; omega), b1, b2, o0]
  simp only [Option.bind_some]
  rw [chk_n (show F < 6 by omega) (by omega)]
  obtain ⟨u, eu, hu, hu2⟩ := nz_of (v := q) (k := 460801) b3 (by omega)
  obtain ⟨w, ew, hw, hw2⟩ := nz_of (v := go_fc (nI F)) (k := 121) (by omega) (by omega)
  have hg : 0 < Nat.gcd u w := Nat.gcd_pos_of_pos_right u (by omega)
  have hgw : Nat.gcd u w ≤ w := Nat.gcd_le_right u (by omega)
  obtain ⟨g1, c1, c2⟩ := q_gcdC (A := q.toInt64) (B := (go_fc (nI F)).toInt64) (p := u) (q := w) (by rw [il]; exact hu2) (by rw [il]; exact hw2) (by omega) (by omega)
  obtain ⟨g2, d1, d2⟩ := q_gcdM (A := q.toInt64) (B := (go_fc (nI F)).toInt64) (p := u) (q := w) (by rw [il]; exact hu2) (by rw [il]; exact hw2) (by omega) (by omega)
  have e0 : (0 : Int64).toInt = 0 := by decide
  have t2 : g2.toInt32.toInt = (Nat.gcd u w : Int) := by rw [li (by omega) (by omega), d2]
  rw [c1, d1]
  simp only [Option.bind_some]
  rw [if_neg (show ¬ lg_cmp g1 0 = 0 by rw [lc_eq, e0]; omega)]
  unfold go_nz go_nzl
  rw [if_neg (show ¬ g1 = 0 by rw [eq_L, e0]; omega), if_neg (show ¬ g1 = 0 by rw [eq_L, e0]; omega), if_neg (show ¬ g2.toInt32 = 0 from fun z => by
    have := congrArg Int32.toInt z
    rw [t2] at this
    have t0 : (0 : Int32).toInt = 0 := rfl
    omega), if_neg (show ¬ g2.toInt32 = 0 from fun z => by
    have := congrArg Int32.toInt z
    rw [t2] at this
    have t0 : (0 : Int32).toInt = 0 := rfl
    omega)]
  have key : ∀ (x : Int32) (m : Nat), x.toInt = (m : Int) → m ≤ 460801 → (x.toInt64 / g1).toInt32 = x / g2.toInt32 := fun x m hx hm => by
    refine i_eq.mpr ?_
    have k1 : (x.toInt64 / g1).toInt = ((m / Nat.gcd u w : Nat) : Int) := by
      rw [tl_div (by rw [il]; omega), il, hx, c2]
      rfl
    have hle : m / Nat.gcd u w ≤ m := Nat.div_le_self _ _
    have k2 : (x / g2.toInt32).toInt = ((m / Nat.gcd u w : Nat) : Int) := by
      rw [ti_div (by omega), hx, t2]
      rfl
    generalize m / Nat.gcd u w = d at k1 k2 hle
    rw [li (by omega) (by omega), k1, k2]
  by_cases hl : l = 0
  · rw [if_pos hl, if_pos hl]
    exact ⟨_, rfl, by rw [key q u hu2 (by omega)]⟩
  · rw [if_neg hl, if_neg hl]
    exact ⟨_, rfl, by rw [key _ w hw2 (by omega)]⟩
