/-! ===== how many ways hold ===== -/
noncomputable def Qz (a : Nat → Int32) (F N : Nat) (d : Nat → Nat) : Nat := @ite Nat (wv a F N d ∧ gz a F N (wd F N d)) (Classical.propDecidable _) 1 0
theorem Qz_1 {a : Nat → Int32} {F N : Nat} {d : Nat → Nat} (h : wv a F N d ∧ gz a F N (wd F N d)) : Qz a F N d = 1 := by
  unfold Qz
  exact if_pos h
theorem Qz_0 {a : Nat → Int32} {F N : Nat} {d : Nat → Nat} (h : ¬ (wv a F N d ∧ gz a F N (wd F N d))) : Qz a F N d = 0 := by
  unfold Qz
  exact if_neg h
def dup (d : Nat → Nat) (f x g : Nat) : Nat := if g = f then x else d g
def dcut (d : Nat → Nat) (f g : Nat) : Nat := if g < f then d g else 0
theorem dup_e {d : Nat → Nat} {f x : Nat} : dup d f x f = x := if_pos rfl
theorem dup_n {d : Nat → Nat} {f x g : Nat} (h : g ≠ f) : dup d f x g = d g := if_neg h
theorem dcut_p {d : Nat → Nat} {f g : Nat} (h : g < f) : dcut d f g = d g := if_pos h
noncomputable def nz (a : Nat → Int32) (F N : Nat) : Nat → Nat → (Nat → Nat) → Nat
  | 0, f, d => Qz a F N (dcut d f)
  | k + 1, f, d => ct_out (fun x => nz a F N k (f + 1) (dup d f x)) 7
theorem nz_zero {a : Nat → Int32} {F N : Nat} : ∀ k f d, (∀ e : Nat → Nat, (∀ g, g < f → e g = d g) → ¬ (wv a F N e ∧ gz a F N (wd F N e))) → nz a F N k f d = 0 := by
  intro k
  induction k with
  | zero =>
    intro f d h
    exact Qz_0 (h _ (fun g hg => dcut_p hg))
  | succ k ih =>
    intro f d h
    refine (ct_zero2 _ 7).mpr (fun x _ => ih (f + 1) _ (fun e he => h e (fun g hg => ?_)))
    rw [he g (by omega), dup_n (by omega)]
theorem ct_split (h : Nat → Nat) : ∀ m, ct_out h (7 * m) = ct_out (fun c => ct_out (fun x => h (x + 7 * c)) 7) m := by
  intro m
  induction m with
  | zero => rfl
  | succ m ih =>
    show ct_out h (7 * m + 7) = ct_out (fun c => ct_out (fun x => h (x + 7 * c)) 7) m + ct_out (fun x => h (x + 7 * m)) 7
    rw [← ih]
    show ct_out h (7 * m) + h (7 * m) + h (7 * m + 1) + h (7 * m + 2) + h (7 * m + 3) + h (7 * m + 4) + h (7 * m + 5) + h (7 * m + 6) = ct_out h (7 * m) + (0 + h (0 + 7 * m) + h (1 + 7 * m) + h (2 + 7 * m) + h (3 + 7 * m) + h (4 + 7 * m) + h (5 + 7 * m) + h (6 + 7 * m))
    rw [Nat.zero_add (7 * m), Nat.add_comm 1 (7 * m), Nat.add_comm 2 (7 * m), Nat.add_comm 3 (7 * m), Nat.add_comm 4 (7 * m), Nat.add_comm 5 (7 * m), Nat.add_comm 6 (7 * m)]
    omega
theorem ct_swap2 (H : Nat → Nat → Nat) (m : Nat) : ∀ A, ct_out (fun c => ct_out (fun x => H x c) A) m = ct_out (fun x => ct_out (fun c => H x c) m) A := by
  intro A
  induction A with
  | zero =>
    show ct_out (fun _ => 0) m = 0
    exact (ct_zero2 _ m).mpr (fun _ _ => rfl)
  | succ A ih =>
    have e : ct_out (fun c => ct_out (fun x => H x c) (A + 1)) m = ct_out (fun c => ct_out (fun x => H x c) A + H A c) m := rfl
    rw [e, ct_add, ih]
    rfl
theorem nz_codes {a : Nat → Int32} {F N : Nat} : ∀ k f d, ct_out (fun c => Qz a F N (fun g => if g < f then d g else dgs c (g - f))) (7 ^ k) = nz a F N k f d := by
  intro k
  induction k with
  | zero =>
    intro f d
    show 0 + Qz a F N (fun g => if g < f then d g else dgs 0 (g - f)) = Qz a F N (dcut d f)
    rw [Nat.zero_add]
    congr 1
    funext g
    unfold dcut
    by_cases h : g < f
    · rw [if_pos h, if_pos h]
    · rw [if_neg h, if_neg h]
      unfold dgs
      rw [Nat.zero_div]
  | succ k ih =>
    intro f d
    rw [Nat.pow_succ, Nat.mul_comm, ct_split, ct_swap2]
    refine ct_out_eq (fun x hx => ?_)
    rw [← ih (f + 1)]
    refine ct_out_eq (fun c _ => ?_)
    congr 1
    funext g
    by_cases h1 : g < f
    · rw [if_pos h1, if_pos (by omega), dup_n (by omega)]
    · rw [if_neg h1]
      by_cases h2 : g = f
      · rw [if_pos (by omega), h2, dup_e, Nat.sub_self]
        unfold dgs
        rw [Nat.pow_zero, Nat.div_one]
        omega
      · rw [if_neg (by omega)]
        obtain ⟨j, hj⟩ : ∃ j, g = f + 1 + j := ⟨g - (f + 1), by omega⟩
        rw [hj, show f + 1 + j - f = j + 1 by omega, show f + 1 + j - (f + 1) = j by omega]
        unfold dgs
        rw [Nat.pow_succ, Nat.mul_comm (7 ^ j) 7, ← Nat.div_div_eq_div_mul, show (x + 7 * c) / 7 = c by omega]
theorem q_stablesM {μm : PM} {F N : Nat} (hO : OB (μm.1 402)) (eF : μm.1 402 1 = nI F) (hF : F ≤ 5) (eN : μm.1 402 0 = nI N) (hN : N ≤ 6) : ∃ μ', fX12_stables μm = some (nI (nz (μm.1 402) F N F 0 (fun _ => 0)), μ') ∧ ∀ x, x ≠ 411 → x ≠ 412 → μ'.1 x = μm.1 x := by
  have hp := pw7 F hF
  obtain ⟨r, h1, μ', rfl, h2⟩ := lp_inv (f := fun s : Int32 × Int32 × PM => lbX12_stables_4 s.1 s.2.1 s.2.2) (fun s => ∃ i : Nat, i ≤ 7 ^ F ∧ s.2.1 = nI i ∧ s.1 = nI (ct_out (fun c => Qz (μm.1 402) F N (dgs c)) i) ∧ ∀ x, x ≠ 411 → x ≠ 412 → s.2.2.1 x = μm.1 x) (fun s => 7 ^ F - s.2.1.toNatClampNeg) (fun r => ∃ μ', r = (nI (ct_out (fun c => Qz (μm.1 402) F N (dgs c)) (7 ^ F)), μ') ∧ ∀ x, x ≠ 411 → x ≠ 412 → μ'.1 x = μm.1 x) (fun s hI => by
    obtain ⟨s0, s1, s2⟩ := s
    obtain ⟨i, hi, e1, e2, hfr⟩ := hI
    have e1 : s1 = nI i := e1
    have e2 : s0 = nI (ct_out (fun c => Qz (μm.1 402) F N (dgs c)) i) := e2
    have hfr : ∀ x, x ≠ 411 → x ≠ 412 → s2.1 x = μm.1 x := hfr
    subst e1 e2
    have f402 := hfr 402 (by omega) (by omega)
    dsimp only
    unfold lbX12_stables_4 jjX12_stables_26_4
    rw [q_codes (by rw [f402]; exact eF) hF, Option.bind_some]
    have hle : nI (7 ^ F) ≤ nI i ↔ 7 ^ F ≤ i := le_n (by omega) (by omega)
    by_cases hlt : 7 ^ F ≤ i
    · right
      have : i = 7 ^ F := by omega
      subst this
      rw [if_pos (hle.mpr hlt)]
      exact ⟨_, rfl, s2, rfl, hfr⟩
    left
    rw [if_neg (fun q => hlt (hle.mp q))]
    obtain ⟨q, μ', k1, k2, k3⟩ := q_way (μm := s2) (by rw [f402]; exact hO) (by rw [f402]; exact eF) hF (by rw [f402]; exact eN) hN (c := i) (by omega)
    rw [f402] at k3
    rw [k1, Option.bind_some, add_l 1]
    dsimp only
    have hfr2 : ∀ x, x ≠ 411 → x ≠ 412 → μ'.1 x = μm.1 x := fun x q1 q2 => (k2 x q1 q2).trans (hfr x q1 q2)
    have dec : 7 ^ F - (nI (i + 1)).toNatClampNeg < 7 ^ F - (nI i).toNatClampNeg := by rw [cl_n (by omega), cl_n (by omega)]; omega
    have e : ct_out (fun c => Qz (μm.1 402) F N (dgs c)) (i + 1) = ct_out (fun c => Qz (μm.1 402) F N (dgs c)) i + Qz (μm.1 402) F N (dgs i) := rfl
    rcases k3 with ⟨rfl, v1, v2, -⟩ | ⟨rfl, v1⟩
    · rw [if_neg (show ¬ (1 : Int32) = 0 by decide), add_l 1]
      exact ⟨_, rfl, ⟨i + 1, by omega, rfl, by rw [e, Qz_1 ⟨v1, v2⟩], hfr2⟩, dec⟩
    · rw [if_pos rfl, Int32.add_zero]
      exact ⟨_, rfl, ⟨i + 1, by omega, rfl, by rw [e, Qz_0 v1]; rfl, hfr2⟩, dec⟩) go_fuel (0, 0, μm) ⟨0, Nat.zero_le _, rfl, rfl, fun _ _ _ => rfl⟩ (by show 7 ^ F - _ < go_fuel; unfold go_fuel; omega)
  refine ⟨μ', ?_, h2⟩
  have hz := nz_codes (a := μm.1 402) (F := F) (N := N) F 0 (fun _ => 0)
  have hz2 : ct_out (fun c => Qz (μm.1 402) F N (fun g => if g < 0 then 0 else dgs c (g - 0))) (7 ^ F) = ct_out (fun c => Qz (μm.1 402) F N (dgs c)) (7 ^ F) := ct_out_eq (fun c _ => by
    congr 1)
  unfold fX12_stables
  rw [h1, ← hz, hz2]
  rfl
section CF
variable {a : Nat → Int32} {F N : Nat} {best worst : Nat → Option Nat}
/-- what is known of the best and the worst -/
def bw (a : Nat → Int32) (F N : Nat) (best worst : Nat → Option Nat) : Prop := gz a F N best ∧ gz a F N worst ∧ ∀ w, gz a F N w → ∀ f, (w f = none ↔ best f = none) ∧ (w f = none ↔ worst f = none) ∧ ∀ y, w f = some y → (∀ b, best f = some b → ¬ gs_p (wz a) f y b) ∧ ∀ z, worst f = some z → ¬ gs_p (wz a) f z y
def cfI (a : Nat → Int32) (F N : Nat) (best worst : Nat → Option Nat) (μ : PM) (f taken : Nat) (d : Nat → Nat) : Prop := VF μ 1 a ∧ (∀ g, g < 5 → μ.1 391 g = enc (best g) ∧ μ.1 392 g = enc (worst g)) ∧ (∀ g, g < f → μ.1 393 g = enc (wd F N d g)) ∧ (∀ g, g < 5 → best g = none → μ.1 393 g = -1) ∧ (∀ g, g < f → d g = 6 ∨ (d g < N ∧ 0 < wz a g (d g))) ∧ taken < 64 ∧ (∀ n, n < N → (taken.testBit n = true ↔ ∃ g, g < f ∧ d g = n)) ∧ ∀ g h, g < f → h < f → d g = d h → d g < N → g = h
def cfR (best : Nat → Option Nat) (f : Nat) (μ μ' : PM) : Prop := (∀ c, c ≠ 393 → μ'.1 c = μ.1 c) ∧ μ'.2 = μ.2 ∧ ∀ g, g < f ∨ (g < 5 ∧ best g = none) → μ'.1 393 g = μ.1 393 g
theorem cfR.tr {f : Nat} {x y z : PM} (h : cfR best f x y) (h2 : cfR best f y z) : cfR best f x z := ⟨fun c hc => (h2.1 c hc).trans (h.1 c hc), h2.2.1.trans h.2.1, fun g hg => (h2.2.2 g hg).trans (h.2.2 g hg)⟩
theorem cfI_R {μ μ' : PM} {f taken : Nat} {d : Nat → Nat} (h : cfI a F N best worst μ f taken d) (hr : cfR best f μ μ') : cfI a F N best worst μ' f taken d := by
  obtain ⟨h1, h2, h3, h4, h5, h6, h7, h8⟩ := h
  refine ⟨VF_eq h1 (fun k hk => ?_), fun g hg => ?_, fun g hg => ?_, fun g hg hb => ?_, h5, h6, h7, h8⟩
  · have := (vz_loc_le k hk).1
    rw [hr.1 _ (by omega)]
  · rw [hr.1 391 (by omega), hr.1 392 (by omega)]
    exact h2 g hg
  · rw [hr.2.2 g (Or.inl hg)]
    exact h3 g hg
  · rw [hr.2.2 g (Or.inr ⟨hg, hb⟩)]
    exact h4 g hg hb
theorem wd_up {d : Nat → Nat} {f x g : Nat} (h : g ≠ f) : wd F N (dup d f x) g = wd F N d g := by
  unfold wd
  rw [dup_n h]
theorem cf_main (eF : a 1 = nI F) (hF : F ≤ 5) (eN : a 0 = nI N) (hN : N ≤ 6) (hbw : bw a F N best worst) : ∀ k f μ d taken n, f + k = F → k < n → cfI a F N best worst μ f taken d → ∃ μ', cfF n μ (nI f) (nI taken) = some (nI (nz a F N k f d), μ') ∧ cfR best f μ μ' := by
  intro k
  induction k with
  | zero =>
    intro f μ d taken n hf hn hI
    obtain ⟨n, rfl⟩ : ∃ m, n = m + 1 := ⟨n - 1, by omega⟩
    obtain ⟨h1, h2, h3, h4, h5, h6, h7, h8⟩ := hI
    have e : f = F := by omega
    subst e
    refine ⟨μ, ?_, fun _ _ => rfl, rfl, fun _ _ => rfl⟩
    show fX4_countFrom_B μ (cfF n) (nI f) (nI taken) = _
    unfold fX4_countFrom_B jjX4_countFrom_B_19
    rw [v1_families h1, eF, if_pos (by rw [le_n (by omega) (by omega)]; omega), q_ratherC (c := 393) (w := wd f N d) h1 eF hF eN hN h3 (fun g y hy => by have := (wd_some hy).2.1; omega), Option.bind_some, ct_swap]
    have hwv : wv a f N d := fun g hg => h5 g hg
    have hs := wv_s hwv hN
    have hinj : w_inj (wd f N d) f := fun x y n hx hy q1 q2 => by
      have z1 := wd_some q1
      have z2 := wd_some q2
      exact h8 x y hx hy (by omega) (by omega)
    have ewd : wd f N (dcut d f) = wd f N d := by
      funext g
      unfold wd
      by_cases hg : g < f
      · rw [if_pos hg, if_pos hg, dcut_p hg]
      · rw [if_neg hg, if_neg hg]
    have ewv : wv a f N (dcut d f) := fun g hg => by
      rw [dcut_p hg]
      exact hwv g hg
    have hcb := ct_out_le (q := fun g => ct_in (fun n => prz a (wd f N d) f g n) N) (m := N) (fun g => ct_in_le _ N) f
    have hcb2 : N * f ≤ 30 := Nat.le_trans (Nat.mul_le_mul hN hF) (by decide)
    show _ = some (nI (Qz a f N (dcut d f)), μ)
    by_cases hz : ct_out (fun g => ct_in (fun n => prz a (wd f N d) f g n) N) f = 0
    · rw [if_pos (by rw [hz]; rfl), Qz_1 ⟨ewv, by rw [ewd]; exact (st_iff hs).mpr ⟨hinj, hz⟩⟩]
      rfl
    · rw [if_neg (fun q => hz ((eq_l (n := 0) (by omega) (by omega)).mp q)), Qz_0 (fun q => by
        have := q.2
        rw [ewd] at this
        exact hz ((st_iff hs).mp this).2)]
      rfl
  | succ k ih =>
    intro f μ d taken n hf hn hI
    obtain ⟨n, rfl⟩ : ∃ m, n = m + 1 := ⟨n - 1, by omega⟩
    obtain ⟨h1, h2, h3, h4, h5, h6, h7, h8⟩ := id hI
    -- choices from which nothing comes
    have zero : ∀ x, (∀ e : Nat → Nat, e f = x → (∀ g, g < f → e g = d g) → ¬ (wv a F N e ∧ gz a F N (wd F N e))) → nz a F N k (f + 1) (dup d f x) = 0 := fun x hx => nz_zero k (f + 1) _ (fun e he => hx e (by rw [he f (by omega), dup_e]) (fun g hg => by rw [he g (by omega), dup_n (by omega)]))
    show ∃ μ', fX4_countFrom_B μ (cfF n) (nI f) (nI taken) = some (nI (ct_out (fun x => nz a F N k (f + 1) (dup d f x)) 7), μ') ∧ cfR best f μ μ'
    unfold fX4_countFrom_B
    rw [v1_families h1, eF, if_neg (by rw [le_n (by omega) (by omega)]; omega), if_pos (show nI f < 5 by rw [lt_l (n := 5) (by omega) (by omega)]; omega), chk_n (show f < 5 by omega) (by omega), chk_n (show f < 5 by omega) (by omega), cl_n (show f < 2147483648 by omega), (h2 f (by omega)).1, (h2 f (by omega)).2]
    have hmid : ∀ x, N ≤ x → x ≠ 6 → nz a F N k (f + 1) (dup d f x) = 0 := fun x hx1 hx2 => zero x (fun e he _ q => by
      rcases q.1 f (by omega) with z | z
      · omega
      · omega)
    cases hb : best f with
    | none =>
      rw [if_pos (show enc none = -1 from rfl)]
      unfold jjX4_countFrom_B_56
      have hIn : cfI a F N best worst μ (f + 1) taken (dup d f 6) := by
        refine ⟨h1, h2, fun g hg => ?_, h4, fun g hg => ?_, h6, fun m hm => ?_, fun g h hg hh e1 e2 => ?_⟩
        · by_cases e : g = f
          · rw [e, h4 f (by omega) hb]
            unfold wd
            rw [if_pos (by omega), dup_e, if_neg (by omega)]
            rfl
          · rw [wd_up e]
            exact h3 g (by omega)
        · by_cases e : g = f
          · rw [e, dup_e]; exact Or.inl rfl
          · rw [dup_n e]; exact h5 g (by omega)
        · rw [h7 m hm]
          constructor
          · rintro ⟨g, g1, g2⟩
            exact ⟨g, by omega, by rw [dup_n (by omega)]; exact g2⟩
          · rintro ⟨g, g1, g2⟩
            by_cases e : g = f
            · rw [e, dup_e] at g2; omega
            · rw [dup_n e] at g2
              exact ⟨g, by omega, g2⟩
        · by_cases q1 : g = f
          · rw [q1, dup_e] at e2; omega
          · by_cases q2 : h = f
            · rw [dup_n q1] at e1 e2
              rw [q2, dup_e] at e1
              omega
            · rw [dup_n q1] at e1 e2
              rw [dup_n q2] at e1
              exact h8 g h (by omega) (by omega) e1 e2
      obtain ⟨μ', r1, r2⟩ := ih (f + 1) μ _ taken n (by omega) (by omega) hIn
      refine ⟨μ', ?_, r2.1, r2.2.1, fun g hg => r2.2.2 g (hg.elim (fun q => Or.inl (by omega)) Or.inr)⟩
      rw [add_l 1, r1, Option.bind_some]
      have hsm : ∀ x, x < N → nz a F N k (f + 1) (dup d f x) = 0 := fun x hx => zero x (fun e he _ q => by
        have := ((hbw.2.2 _ q.2 f).1).mpr hb
        rw [wd_p (show f < F by omega) (by rw [he]; exact hx)] at this
        cases this)
      have hall : ∀ x, x < 6 → nz a F N k (f + 1) (dup d f x) = 0 := fun x hx => by
        by_cases q : x < N
        · exact hsm x q
        · exact hmid x (by omega) (by omega)
      have e7 : ct_out (fun x => nz a F N k (f + 1) (dup d f x)) 7 = ct_out (fun x => nz a F N k (f + 1) (dup d f x)) 6 + nz a F N k (f + 1) (dup d f 6) := rfl
      rw [e7, (ct_zero2 _ 6).mpr hall, Nat.zero_add]
    | some b =>
      have hwn : worst f ≠ none := fun q => by
        have := ((hbw.2.2 _ hbw.1 f).2.1).mpr q
        rw [hb] at this
        cases this
      cases hw : worst f with
      | none => exact absurd hw hwn
      | some z =>
        have hbN := hbw.1.1 f b hb
        have hzN := hbw.2.1.1 f z hw
        have hbn : b < N := hbN.2.1
        have hzn : z < N := hzN.2.1
        have hzp : 0 < wz a f z := hzN.2.2
        rw [if_neg (enc_n1 (by omega)), if_neg (enc_n1 (by omega))]
        obtain ⟨r, l1, μ', rfl, l2⟩ := lp_inv (f := fun s : Int32 × Int32 × PM => lbX4_countFrom_B_70 (cfF n) (nI f) (nI taken) s.1 s.2.1 s.2.2) (fun s => ∃ i : Nat, i ≤ N ∧ s.2.1 = nI i ∧ s.1 = nI (ct_out (fun x => nz a F N k (f + 1) (dup d f x)) i) ∧ cfR best f μ s.2.2) (fun s => N - s.2.1.toNatClampNeg) (fun r => ∃ μ', r = (nI (ct_out (fun x => nz a F N k (f + 1) (dup d f x)) N), μ') ∧ cfR best f μ μ') (fun s hs => by
          obtain ⟨s0, s1, s2⟩ := s
          obtain ⟨i, hi, e1, e2, hR⟩ := hs
          have e1 : s1 = nI i := e1
          have e2 : s0 = nI (ct_out (fun x => nz a F N k (f + 1) (dup d f x)) i) := e2
          have hR : cfR best f μ s2 := hR
          subst e1 e2
          obtain ⟨i1, i2, i3, i4, i5, i6, i7, i8⟩ := cfI_R hI hR
          dsimp only
          unfold lbX4_countFrom_B_70 jjX4_countFrom_B_130_70 jjX4_countFrom_B_131_70
          rw [v1_names i1, eN]
          have hle : nI N ≤ nI i ↔ N ≤ i := le_n (by omega) (by omega)
          by_cases hlt : N ≤ i
          · right
            have : i = N := by omega
            subst this
            rw [if_pos (hle.mpr hlt)]
            exact ⟨_, rfl, s2, rfl, hR⟩
          left
          have dec : N - (nI (i + 1)).toNatClampNeg < N - (nI i).toNatClampNeg := by rw [cl_n (by omega), cl_n (by omega)]; omega
          have e : ct_out (fun x => nz a F N k (f + 1) (dup d f x)) (i + 1) = ct_out (fun x => nz a F N k (f + 1) (dup d f x)) i + nz a F N k (f + 1) (dup d f i) := rfl
          have skip : nz a F N k (f + 1) (dup d f i) = 0 → ∃ s', (some (Sum.inl (nI (ct_out (fun x => nz a F N k (f + 1) (dup d f x)) i), nI (i + 1), s2)) : Option ((Int32 × Int32 × PM) ⊕ (Int32 × PM))) = some (.inl s') ∧ (∃ i : Nat, i ≤ N ∧ s'.2.1 = nI i ∧ s'.1 = nI (ct_out (fun x => nz a F N k (f + 1) (dup d f x)) i) ∧ cfR best f μ s'.2.2) ∧ N - s'.2.1.toNatClampNeg < N - (nI i).toNatClampNeg := fun q => ⟨_, rfl, ⟨i + 1, by omega, rfl, by rw [e, q]; rfl, hR⟩, dec⟩
          simp only [go_let]
          rw [if_neg (fun q => hlt (hle.mp q)), if_neg (show ¬ (6 : Int32) ≤ nI i by rw [l_le (n := 6) (by omega) (by omega)]; omega), chk_n (show f < 5 by omega) (by omega), cl_n (show f < 2147483648 by omega), (i2 f (by omega)).1, (i2 f (by omega)).2, hb, hw, q_like1 i1 (by omega) (by omega) (fun y hy => by cases hy; omega), Option.bind_some, nb_01, show enc (some z) = nI z from rfl, show (nI i : Int32) = enc (some i) from rfl]
          rw [show nI z = nI z from rfl]
          have hl2 : fX4_likesMore s2 1 (nI f) (nI z) (enc (some i)) = some (if gs_o (wz a) f z (some i) = true then 1 else 0) := q_like1 i1 (by omega) (by omega) (fun y hy => by cases hy; omega)
          rw [hl2, Option.bind_some, nb_01, show enc (some i) = nI i from rfl, add_l 1]
          by_cases g1 : gs_o (wz a) f i (some b) = true
          · rw [if_pos g1, if_pos trivial]
            refine skip (zero i (fun e he _ q => ?_))
            have hx := (hbw.2.2 _ q.2 f).2.2 i (by rw [wd_p (show f < F by omega) (by rw [he]; omega), he])
            exact hx.1 b hb (gs_b_iff.mp g1)
          rw [if_neg g1, chk_n (show f < 5 by omega) (by omega)]
          by_cases g2 : gs_o (wz a) f z (some i) = true
          · rw [if_pos g2, if_pos trivial]
            refine skip (zero i (fun e he _ q => ?_))
            have hx := (hbw.2.2 _ q.2 f).2.2 i (by rw [wd_p (show f < F by omega) (by rw [he]; omega), he])
            exact hx.2 z hw (gs_b_iff.mp g2)
          rw [if_neg g2, if_neg (by decide), bitE, nb_has (by omega) (by omega), q_ite]
          by_cases g3 : taken.testBit i = true
          · rw [if_pos g3]
            refine skip (zero i (fun e he hpre q => ?_))
            obtain ⟨g, p1, p2⟩ := (i7 i (by omega)).mp g3
            have q1 := wd_p (N := N) (d := e) (show f < F by omega) (by rw [he]; omega)
            have q2 := wd_p (N := N) (d := e) (show g < F by omega) (by rw [hpre g p1, p2]; omega)
            rw [he] at q1
            rw [hpre g p1, p2] at q2
            have := q.2.2.1 f g i q1 q2
            omega
          rw [if_neg g3, chk_n (show f < 5 by omega) (by omega), nb_set (show i < 31 by omega)]
          have hip : 0 < wz a f i := by
            have : ¬ gs_p (wz a) f z i := fun q => g2 (gs_b_iff.mpr q)
            unfold gs_p at this
            omega
          have hIn : cfI a F N best worst (pm_wi s2 393 f (nI i)) (f + 1) (taken ||| 2 ^ i) (dup d f i) := by
            refine ⟨VF_eq i1 (fun j hj => by have := (vz_loc_le j hj).1; rw [wi_c (by omega)]), fun g hg => by rw [wi_c (by omega), wi_c (by omega)]; exact i2 g hg, fun g hg => ?_, fun g hg hgb => ?_, fun g hg => ?_, nb_or_lt (m := 6) i6 (by omega), fun m hm => ?_, fun g h hg hh e1 e2 => ?_⟩
            · by_cases e : g = f
              · rw [e, wi_e]
                unfold wd
                rw [if_pos (by omega), dup_e, if_pos (by omega)]
                rfl
              · rw [wi_i e, wd_up e]
                exact i3 g (by omega)
            · rw [wi_i (fun q => by rw [q, hb] at hgb; cases hgb)]
              exact i4 g hg hgb
            · by_cases e : g = f
              · rw [e, dup_e]; exact Or.inr ⟨by omega, hip⟩
              · rw [dup_n e]; exact i5 g (by omega)
            · rw [bit_up, Bool.or_eq_true, i7 m hm, decide_eq_true_eq]
              constructor
              · rintro (⟨g, p1, p2⟩ | p)
                · exact ⟨g, by omega, by rw [dup_n (by omega)]; exact p2⟩
                · exact ⟨f, by omega, by rw [dup_e]; exact p.symm⟩
              · rintro ⟨g, p1, p2⟩
                by_cases e : g = f
                · rw [e, dup_e] at p2
                  exact Or.inr p2.symm
                · rw [dup_n e] at p2
                  exact Or.inl ⟨g, by omega, p2⟩
            · have nt : ∀ g, g < f → d g ≠ i := fun g hg q => g3 ((i7 i (by omega)).mpr ⟨g, hg, q⟩)
              by_cases q1 : g = f
              · by_cases q2 : h = f
                · rw [q1, q2]
                · rw [q1, dup_e, dup_n q2] at e1
                  exact absurd e1.symm (nt h (by omega))
              · by_cases q2 : h = f
                · rw [dup_n q1, q2, dup_e] at e1
                  exact absurd e1 (nt g (by omega))
                · rw [dup_n q1] at e1 e2
                  rw [dup_n q2] at e1
                  exact i8 g h (by omega) (by omega) e1 e2
          obtain ⟨μ', r1, r2⟩ := ih (f + 1) _ _ (taken ||| 2 ^ i) n (by omega) (by omega) hIn
          rw [add_l 1, r1, Option.bind_some, nI_add]
          refine ⟨_, rfl, ⟨i + 1, by omega, rfl, by rw [e], hR.tr ⟨fun c hc => ?_, r2.2.1, fun g hg => ?_⟩⟩, dec⟩
          · show μ'.1 c = _
            rw [r2.1 c hc, wi_c hc]
          · show μ'.1 393 g = _
            have hgf : g ≠ f := fun q => by
              rcases hg with q2 | q2
              · omega
              · have := q2.2
                rw [q, hb] at this
                cases this
            rw [r2.2.2 g (hg.elim (fun q => Or.inl (by omega)) Or.inr), wi_i hgf]) go_fuel (0, 0, μ) ⟨0, by omega, rfl, rfl, fun _ _ => rfl, rfl, fun _ _ => rfl⟩ (by show N - _ < go_fuel; unfold go_fuel; omega)
        refine ⟨μ', ?_, l2⟩
        rw [l1]
        have h6 : nz a F N k (f + 1) (dup d f 6) = 0 := zero 6 (fun e he _ q => by
          have hx : wd F N e f = none := by
            unfold wd
            rw [if_pos (show f < F by omega), he, if_neg (by omega)]
          have := ((hbw.2.2 _ q.2 f).1).mp hx
          rw [hb] at this
          cases this)
        have hup : ∀ m, N ≤ m → m ≤ 7 → ct_out (fun x => nz a F N k (f + 1) (dup d f x)) m = ct_out (fun x => nz a F N k (f + 1) (dup d f x)) N := by
          intro m
          induction m with
          | zero => intro q _; rw [show N = 0 by omega]
          | succ m ihm =>
            intro q1 q2
            by_cases e : N = m + 1
            · rw [e]
            · have e2 : ct_out (fun x => nz a F N k (f + 1) (dup d f x)) (m + 1) = ct_out (fun x => nz a F N k (f + 1) (dup d f x)) m + nz a F N k (f + 1) (dup d f m) := rfl
              rw [e2, ihm (by omega) (by omega)]
              by_cases e6 : m = 6
              · rw [e6, h6, Nat.add_zero]
              · rw [hmid m (by omega) e6, Nat.add_zero]
        rw [hup 7 (by omega) (by omega)]
        rfl
end CF
theorem c_stables : BOTH fX11_stables fX12_stables := by
  intro μc μm h
  have hV := h.1.1
  have hO := h.1.2.2.2.1
  have hfb := ob_families hO
  have hnb := ob_names hO
  obtain ⟨F, eF, hF, -⟩ := nz_of (v := μm.1 402 1) (k := 6) hfb.1 (by omega)
  obtain ⟨N, eN, hN, -⟩ := nz_of (v := μm.1 402 0) (k := 7) hnb.1 (by omega)
  obtain ⟨μ1, has, had, k1, k2, k3, k4, k5, k6, k7⟩ := st_mainF hV eF (by omega) eN (by omega)
  have hV2 : VF (pm_cp μ1 388 391 0 0 5) 1 (μm.1 402) := VF_eq (k2.vf hV) (fun k hk => by
    have := (vz_loc_le k hk).1
    rw [cp_c (by omega)])
  obtain ⟨μ2, has2, had2, l1, l2, l3, l4, l5, l6, l7⟩ := st_mainN hV2 eF (by omega) eN (by omega)
  obtain ⟨μ3, f1, f2, f3, f4⟩ := q_fill (μ := pm_cp μ2 388 392 0 0 5) (c := 393) (n := 5) (v := -1) (by omega)
  have hz : gz (μm.1 402) F N had2 := gz_flip l5 l6
  have hbw : bw (μm.1 402) F N has had2 := by
    refine ⟨k6, hz, fun w hw f => ?_⟩
    have hwT : ∀ x y, own w x F = some y ↔ w y = some x := fun x y => own_iff (fun f g n => hw.2.1 f g n) (fun f n q => (hw.1 f n q).1)
    have hg2 := gz_flip2 hwT hw
    have hru := (gs_rural l6 l7 hg2).2 f
    have hru2 := (gs_rural k6 k7 hw).1 f
    refine ⟨hru2.symm, ⟨fun q => ?_, fun q => ?_⟩, fun y hy => ⟨fun b hb => ?_, fun z hzz => ?_⟩⟩
    · cases hh : had2 f with
      | none => rfl
      | some n =>
        obtain ⟨x, hx⟩ := hru.mp ⟨n, (l5 n f).mpr hh⟩
        rw [(hwT x f).mp hx] at q
        cases q
    · cases hh : w f with
      | none => rfl
      | some n =>
        obtain ⟨x, hx⟩ := hru.mpr ⟨n, (hwT n f).mpr hh⟩
        rw [(l5 x f).mp hx] at q
        cases q
    · obtain ⟨b', q1, q2⟩ := k7 w hw f y hy
      rw [hb] at q1
      cases q1
      exact q2
    · obtain ⟨x, hx1, hx2⟩ := gs_dual l6 l7 hg2 ((l5 z f).mpr hzz)
      have := (hwT x f).mp hx1
      rw [hy] at this
      cases this
      exact hx2
  have hfr3 : ∀ c, c < 388 ∨ 393 < c → μ3.1 c = μc.1 c := fun c hc => by rw [f3 c (by omega), cp_c (by omega), l2.1 c (by omega), cp_c (by omega), k2.1 c (by omega)]
  have hI : cfI (μm.1 402) F N has had2 μ3 0 0 (fun _ => 0) := by
    refine ⟨VF_eq hV (fun k hk => by have := (vz_loc_le k hk).1; rw [hfr3 _ (by omega)]), fun g hg => ⟨?_, ?_⟩, fun g hg => by omega, fun g hg _ => f2 g hg, fun g hg => by omega, by omega, fun n _ => ?_, fun g h hg => by omega⟩
    · rw [f3 391 (by omega), cp_c (by omega), l2.1 391 (by omega), cp_in (by omega) (by omega), show 0 + (g - 0) = g by omega]
      exact k3 g hg
    · rw [f3 392 (by omega), cp_in (by omega) (by omega), show 0 + (g - 0) = g by omega]
      exact l4 g hg
    · rw [Nat.zero_testBit]
      exact ⟨fun q => (by cases q), fun ⟨g, hg, _⟩ => by omega⟩
  obtain ⟨μ4, c1, c2⟩ := cf_main (a := μm.1 402) (F := F) (N := N) eF (by omega) eN (by omega) hbw F 0 μ3 (fun _ => 0) 0 10 (by omega) (by omega) hI
  obtain ⟨μ5, m1, m2⟩ := q_stablesM hO eF (by omega) eN (by omega)
  have hB : ∀ c, c < 388 ∨ 393 < c → μ4.1 c = μc.1 c := fun c hc => by rw [c2.1 c (by omega)]; exact hfr3 c hc
  have hB2 : μ4.2 = μc.2 := by rw [c2.2.1, f4, cp_2, l2.2, cp_2, k2.2]
  have e401 := m2 401 (by omega) (by omega)
  have e402 := m2 402 (by omega) (by omega)
  have hfin := RR_of h (μc' := μ4) (μm' := μ5) ⟨hB 0 (by omega), fun c h1 h2 => hB c (by omega), fun c h1 h2 => hB c (by omega), fun c h1 => hB c (by omega), hB2⟩ ⟨⟨by rw [e401], by rw [e401], by rw [e401], by rw [e401]⟩, m2 403 (by omega) (by omega), m2 404 (by omega) (by omega), m2 405 (by omega) (by omega), fun c hc => m2 c (by omega) (by omega)⟩ (by rw [e402]; exact VV_eq h.1 (fun c h1 h2 => hB c (by omega))) (by rw [e402])
  refine ⟨_, μ4, μ5, ?_, m1, hfin⟩
  unfold fX11_stables fX4_countStable
  rw [k1, Option.bind_some]
  dsimp only [go_let]
  rw [l1, Option.bind_some, f1, Option.bind_some]
  unfold fX4_countFrom
  have c1 : cfF 10 μ3 0 0 = some (nI (nz (μm.1 402) F N F 0 (fun _ => 0)), μ4) := c1
  rw [c1]
  rfl
