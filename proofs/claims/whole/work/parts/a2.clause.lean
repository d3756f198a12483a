/-! ===== a clause, in the abstract; and the reference's ===== -/
def tz_snd (x : Nat) : Bool := decide (fX12_areSounds (nI x) = some 1)
def tz_fig (t v : Nat → Nat) (lo hi i : Nat) : (Nat × Nat) ⊕ Nat := if t i = 32 then (if lo ≤ v i ∧ v i ≤ hi then .inr (v i) else .inl (2, i)) else .inl (1, i)
def tz_one (t v : Nat → Nat) (lo hi i : Nat) : (Nat × Nat) ⊕ (Nat × Nat × Nat) := match tz_fig t v lo hi i with
  | .inl e => .inl e
  | .inr x => .inr (i + 1, x, 0)
def tz_pair (t v : Nat → Nat) (lo hi w i : Nat) : (Nat × Nat) ⊕ (Nat × Nat × Nat) := match tz_fig t v lo hi i with
  | .inl e => .inl e
  | .inr x => if t (i + 1) = w then (match tz_fig t v 0 9 (i + 1 + 1) with
    | .inl e => .inl e
    | .inr y => .inr (i + 1 + 1 + 1, x, y)) else .inl (1, i + 1)
def tz_body (t v : Nat → Nat) (s i : Nat) : (Nat × Nat) ⊕ (Nat × Nat × Nat) :=
  if s = 3 then (if (t i = 32 ∧ 1 ≤ v i ∧ v i ≤ 9999) ∧ tz_snd (v i) = false then .inl (7, i) else tz_pair t v 1 9999 19 i)
  else if s = 4 then tz_pair t v 1 9 20 i
  else if s = 5 then tz_one t v 0 5 i
  else if s = 6 then tz_one t v 0 9 i
  else if s = 7 then tz_one t v 0 9 i
  else if s = 8 then tz_pair t v 0 4 20 i
  else if s = 9 then tz_one t v 0 5 i
  else tz_one t v 1 60 i
abbrev tz_A : Type := Nat × Nat × Nat × Nat × pz_C × pz_C
def tz_end (t : Nat → Nat) (j : Nat) (a : tz_A) : (Nat × Nat) ⊕ tz_A := if t j = 50 then .inr a else .inl (1, j)
/-- a clause at i: N before it, B the laws there are, p the class's place -/
def tz_cl (t v : Nat → Nat) (M N B i p : Nat) : Option ((Nat × Nat) ⊕ tz_A) :=
  if 11 ≤ t i then some (.inl (1, i))
  else if t i < 3 ∧ B.testBit (t i) = true then some (.inl (4, i))
  else if N = 24 then some (.inl (6, i))
  else if t i < 3 then (match pz_P t v (lk_of (t i)) M 0 0 (i + 1) p with
    | none => none
    | some (.inl e) => some (.inl e)
    | some (.inr x) => some (tz_end t x.1 (x.1 + 1, t i, 0, 0, x.2.1, x.2.2)))
  else (match tz_body t v (t i) (i + 1) with
    | .inl e => some (.inl e)
    | .inr x => some (tz_end t x.1 (x.1 + 1, t i, x.2.1, x.2.2, [], [])))
/-- what a clause's numbers leave as it is -/
def BF (A : Nat) (μ μ' : PM) : Prop := (∀ c, c ≠ 401 → c ≠ 404 → μ'.1 c = μ.1 c) ∧ (∀ j, j ≠ 7 → j ≠ 8 → j ≠ 9 → j ≠ 10 → μ'.1 401 j = μ.1 401 j) ∧ ∀ k, k ≠ A + 1 → k ≠ A + 2 → μ'.1 404 k = μ.1 404 k
theorem BF.rfl' (A : Nat) (μ : PM) : BF A μ μ := ⟨fun _ _ _ => rfl, fun _ _ _ _ _ => rfl, fun _ _ _ => rfl⟩
theorem BF.tr {A : Nat} {a b c : PM} (h : BF A a b) (h2 : BF A b c) : BF A a c := ⟨fun x k1 k2 => (h2.1 x k1 k2).trans (h.1 x k1 k2), fun j k1 k2 k3 k4 => (h2.2.1 j k1 k2 k3 k4).trans (h.2.1 j k1 k2 k3 k4), fun k k1 k2 => (h2.2.2 k k1 k2).trans (h.2.2 k k1 k2)⟩
theorem NF.bf {μ μ' : PM} (h : NF μ μ') (A : Nat) : BF A μ μ' := ⟨fun c h1 _ => h.1 c h1, h.2, fun k _ _ => by rw [h.1 404 (by decide)]⟩
theorem BF.wi {A k : Nat} {v : Int32} {μ μ' : PM} (h : BF A μ μ') (hk : k = A + 1 ∨ k = A + 2) : BF A μ (pm_wi μ' 404 k v) := ⟨fun c k1 k2 => (wi_c k2).trans (h.1 c k1 k2), fun j k1 k2 k3 k4 => by rw [wi_c (by decide)]; exact h.2.1 j k1 k2 k3 k4, fun k' k1 k2 => (wi_i (by omega)).trans (h.2.2 k' k1 k2)⟩
section CLS
variable {b : Nat → Nat} {n T : Nat}
theorem TPM_bf {μ μ' : PM} {A : Nat} (h : TPM μ b n) (hE : BF A μ μ') : TPM μ' b n := ⟨(hE.2.1 4 (by omega) (by omega) (by omega) (by omega)).trans h.1, h.2.1, fun k hk => by rw [hE.1 405 (by omega) (by omega)]; exact h.2.2 k hk⟩
theorem tm_sort {μ : PM} {i : Nat} (h : TPM μ b n) (ht : TM μ b n (tk_pos b n i)) : fX12_sortOf μ = if tk_t b n i < 11 then nI (tk_t b n i) else -1 := by
  unfold fX12_sortOf
  rw [tm_word h ht (w := 0) (by omega) tw_sort.1, tm_word h ht (w := 1) (by omega) tw_sort.2.1, tm_word h ht (w := 2) (by omega) tw_sort.2.2.1, tm_word h ht (w := 3) (by omega) tw_sort.2.2.2.1, tm_word h ht (w := 4) (by omega) tw_sort.2.2.2.2.1, tm_word h ht (w := 5) (by omega) tw_sort.2.2.2.2.2.1, tm_word h ht (w := 6) (by omega) tw_sort.2.2.2.2.2.2.1, tm_word h ht (w := 7) (by omega) tw_sort.2.2.2.2.2.2.2.1, tm_word h ht (w := 8) (by omega) tw_sort.2.2.2.2.2.2.2.2.1, tm_word h ht (w := 9) (by omega) tw_sort.2.2.2.2.2.2.2.2.2.1, tm_word h ht (w := 10) (by omega) tw_sort.2.2.2.2.2.2.2.2.2.2]
  generalize tk_t b n i = t
  rw [q_ite, q_ite, q_ite, q_ite, q_ite, q_ite, q_ite, q_ite, q_ite, q_ite, q_ite]
  by_cases c0 : t = 0
  · rw [if_pos c0, c0]; rfl
  rw [if_neg c0]
  by_cases c1 : t = 1
  · rw [if_pos c1, c1]; rfl
  rw [if_neg c1]
  by_cases c2 : t = 2
  · rw [if_pos c2, c2]; rfl
  rw [if_neg c2]
  by_cases c3 : t = 3
  · rw [if_pos c3, c3]; rfl
  rw [if_neg c3]
  by_cases c4 : t = 4
  · rw [if_pos c4, c4]; rfl
  rw [if_neg c4]
  by_cases c5 : t = 5
  · rw [if_pos c5, c5]; rfl
  rw [if_neg c5]
  by_cases c6 : t = 6
  · rw [if_pos c6, c6]; rfl
  rw [if_neg c6]
  by_cases c7 : t = 7
  · rw [if_pos c7, c7]; rfl
  rw [if_neg c7]
  by_cases c8 : t = 8
  · rw [if_pos c8, c8]; rfl
  rw [if_neg c8]
  by_cases c9 : t = 9
  · rw [if_pos c9, c9]; rfl
  rw [if_neg c9]
  by_cases c10 : t = 10
  · rw [if_pos c10, c10]; rfl
  rw [if_neg c10, if_neg (by omega)]
theorem q_fig {μ : PM} {i a lo hi : Nat} (h : TPM μ b n) (ht : TM μ b n (tk_pos b n i)) (ha : a < 2724) (hh : hi ≤ 9999) (hlo : lo ≤ 9999) : match tz_fig (tk_t b n) (tk_v b n) lo hi i with
    | .inl e => e.1 ≠ 0 ∧ e.1 ≤ 2 ∧ e.2 = i ∧ fX12_figure μ (nI a) (nI lo) (nI hi) = some (nI e.1, μ)
    | .inr x => x < 10000 ∧ ∃ μ', fX12_figure μ (nI a) (nI lo) (nI hi) = some (0, μ') ∧ NF (pm_wi μ 404 a (nI x)) μ' ∧ TM μ' b n (tk_pos b n (i + 1)) := by
  have k1 := tm_fig h ht
  unfold tz_fig fX12_figure
  by_cases c : tk_t b n i = 32
  · obtain ⟨w, v1, v2, v3, v4⟩ := tm_val h ht c
    rw [if_pos c, if_pos (k1.mpr c), v1, q_isIn, ti_n (show lo < 2147483648 by omega), ti_n (show hi < 2147483648 by omega), ti_n (show w < 2147483648 by omega), q_ite]
    by_cases r : lo ≤ tk_v b n i ∧ tk_v b n i ≤ hi
    · have ew : w = tk_v b n i := v3 (by omega)
      rw [if_pos r, if_pos (by omega), chk_n ha (by omega), cl_n (show a < 2147483648 by omega), ew]
      have T1 : TPM (pm_wi μ 404 a (nI (tk_v b n i))) b n := ⟨by rw [wi_c (by decide)]; exact h.1, h.2.1, fun k hk => by rw [wi_c (by decide)]; exact h.2.2 k hk⟩
      have M1 : TM (pm_wi μ 404 a (nI (tk_v b n i))) b n (tk_pos b n i) := TM_sf ht (fun j _ _ => by rw [wi_c (by decide)]) rfl
      obtain ⟨μ', m1, m2, m3⟩ := tm_next T1 M1
      refine ⟨by omega, μ', ?_, m2, m3⟩
      show ((fX12_nextToken (pm_wi μ 404 a (nI (tk_v b n i)))).bind fun q3 => some ((0, q3))) = _
      rw [m1, Option.bind_some]
    · rw [if_neg r, if_neg (fun z => r (by
        by_cases y : tk_v b n i ≤ 99999
        · have := v3 y
          omega
        · have := v4 (by omega)
          omega))]
      exact ⟨by show (2 : Nat) ≠ 0; decide, by show (2 : Nat) ≤ 2; omega, rfl, rfl⟩
  · rw [if_neg c, if_neg (fun z => c (k1.mp z))]
    exact ⟨by show (1 : Nat) ≠ 0; decide, by show (1 : Nat) ≤ 2; omega, rfl, rfl⟩
/-- how a body's answer stands -/
def BDR (μ : PM) (b : Nat → Nat) (n A : Nat) (two : Prop) (r : (Nat × Nat) ⊕ (Nat × Nat × Nat)) (p : Option (Int32 × PM)) : Prop := match r with
  | .inl e => e.1 ≠ 0 ∧ ∃ μ', p = some (nI e.1, μ') ∧ TM μ' b n (tk_pos b n e.2) ∧ BF A μ μ'
  | .inr x => ∃ μ', p = some (0, μ') ∧ TM μ' b n (tk_pos b n x.1) ∧ BF A μ μ' ∧ μ'.1 404 (A + 1) = nI x.2.1 ∧ (two → μ'.1 404 (A + 2) = nI x.2.2)
theorem q_oneM {μ : PM} {i A lo hi : Nat} {two : Prop} (h : TPM μ b n) (ht : TM μ b n (tk_pos b n i)) (ha : A + 2 < 2724) (hh : hi ≤ 9999) (hlo : lo ≤ 9999) (h2 : ¬ two) : BDR μ b n A two (tz_one (tk_t b n) (tk_v b n) lo hi i) (fX12_figure μ (nI A + 1) (nI lo) (nI hi)) := by
  have k := q_fig (a := A + 1) (lo := lo) (hi := hi) h ht (by omega) hh hlo
  rw [add_l 1]
  unfold tz_one
  generalize tz_fig (tk_t b n) (tk_v b n) lo hi i = r at k ⊢
  cases r with
  | inl e =>
    obtain ⟨k1, kb, k2, k3⟩ := k
    obtain ⟨e1, e2⟩ := e
    have k2 : e2 = i := k2
    subst k2
    exact ⟨k1, μ, k3, ht, BF.rfl' A μ⟩
  | inr x =>
    obtain ⟨k0, μ', k1, k2, k3⟩ := k
    refine ⟨μ', k1, k3, ((BF.rfl' A μ).wi (Or.inl rfl)).tr (k2.bf A), ?_, fun z => absurd z h2⟩
    rw [k2.1 404 (by decide), wi_e]
theorem q_pairM {μ : PM} {i A lo hi w : Nat} {W : Int64} {two : Prop} (h : TPM μ b n) (ht : TM μ b n (tk_pos b n i)) (ha : A + 2 < 2724) (hh : hi ≤ 9999) (hlo : lo ≤ 9999) (hw : w < 31) (hW : W.toInt = (tk_wk w : Int)) : BDR μ b n A two (tz_pair (tk_t b n) (tk_v b n) lo hi w i) (fX12_pair μ (nI A) (nI lo) (nI hi) W 9) := by
  have k := q_fig (a := A + 1) (lo := lo) (hi := hi) h ht (by omega) hh hlo
  unfold fX12_pair tz_pair
  rw [add_l 1, add_l 2]
  generalize tz_fig (tk_t b n) (tk_v b n) lo hi i = r at k ⊢
  cases r with
  | inl e =>
    obtain ⟨k1, kb, k2, k3⟩ := k
    obtain ⟨e1, e2⟩ := e
    have k2 : e2 = i := k2
    have k1 : e1 ≠ 0 := k1
    subst k2
    refine ⟨k1, μ, ?_, ht, BF.rfl' A μ⟩
    rw [k3, Option.bind_some]
    have hb : e1 ≤ 2 := kb
    rw [if_neg (fun z => k1 ((eq_l (n := 0) (by omega) (by omega)).mp z))]
  | inr x =>
    obtain ⟨k0, μ1, k1, k2, k3⟩ := k
    have B1 : BF A μ μ1 := ((BF.rfl' A μ).wi (Or.inl rfl)).tr (k2.bf A)
    have T1 := TPM_bf h B1
    have v1 : μ1.1 404 (A + 1) = nI x := by rw [k2.1 404 (by decide), wi_e]
    rw [k1, Option.bind_some]
    dsimp only
    rw [if_pos rfl, tm_word T1 k3 hw hW, q_ite]
    by_cases c : tk_t b n (i + 1) = w
    · rw [if_pos c, if_pos c]
      obtain ⟨μ2, m1, m2, m3⟩ := tm_next T1 k3
      have T2 := T1.nf m2
      have B2 : BF A μ μ2 := B1.tr (m2.bf A)
      rw [m1, Option.bind_some]
      have l := q_fig (a := A + 2) (lo := 0) (hi := 9) T2 m3 (by omega) (by omega) (by omega)
      generalize tz_fig (tk_t b n) (tk_v b n) 0 9 (i + 1 + 1) = r at l ⊢
      cases r with
      | inl e =>
        obtain ⟨l1, -, l2, l3⟩ := l
        obtain ⟨e1, e2⟩ := e
        have l2 : e2 = i + 1 + 1 := l2
        subst l2
        have l3 : fX12_figure μ2 (nI (A + 2)) 0 9 = some (nI e1, μ2) := l3
        exact ⟨l1, μ2, by rw [l3, Option.bind_some], m3, B2⟩
      | inr y =>
        obtain ⟨l0, μ3, l1, l2, l3⟩ := l
        have l1 : fX12_figure μ2 (nI (A + 2)) 0 9 = some (0, μ3) := l1
        refine ⟨μ3, by rw [l1, Option.bind_some], l3, (B2.wi (Or.inr rfl)).tr (l2.bf A), ?_, fun _ => ?_⟩
        · rw [l2.1 404 (by decide), wi_i (by omega), m2.1 404 (by decide)]
          exact v1
        · rw [l2.1 404 (by decide), wi_e]
    · rw [if_neg c, if_neg c]
      exact ⟨by show (1 : Nat) ≠ 0; decide, μ1, rfl, k3, B1⟩
theorem BDR_id {μ : PM} {A : Nat} {two : Prop} {r : (Nat × Nat) ⊕ (Nat × Nat × Nat)} {p : Option (Int32 × PM)} (h : BDR μ b n A two r p) : BDR μ b n A two r (p.bind fun q => some ((q.1, q.2))) := by rw [id_b]; exact h
theorem q_body {μ : PM} {i A s : Nat} (h : TPM μ b n) (ht : TM μ b n (tk_pos b n i)) (ha : A + 2 < 2724) (h3 : 3 ≤ s) (h10 : s ≤ 10) : BDR μ b n A (s = 3 ∨ s = 4 ∨ s = 8) (tz_body (tk_t b n) (tk_v b n) s i) (fX12_body μ (nI s) (nI A)) := by
  have ne : ∀ j : Nat, j < 64 → s ≠ j → ¬ nI s = (OfNat.ofNat j : Int32) := fun j hj q z => q ((eq_l (n := j) (by omega) (by omega)).mp z)
  unfold fX12_body tz_body
  by_cases c3 : s = 3
  · subst c3
    rw [if_pos (show nI 3 = 3 from rfl), if_pos rfl]
    have k1 := tm_fig h ht
    have pr : BDR μ b n A (3 = 3 ∨ 3 = 4 ∨ 3 = 8) (tz_pair (tk_t b n) (tk_v b n) 1 9999 19 i) (jjX12_body_83 μ (nI 3) (nI A)) := BDR_id (q_pairM (lo := 1) (hi := 9999) (w := 19) h ht ha (by omega) (by omega) (by omega) tw_at.2.1)
    by_cases c : tk_t b n i = 32
    · obtain ⟨w, v1, v2, v3, v4⟩ := tm_val h ht c
      rw [if_pos (k1.mpr c), v1, q_isIn, show ((1 : Int32).toInt) = 1 from rfl, show ((9999 : Int32).toInt) = 9999 from rfl, ti_n (show w < 2147483648 by omega), q_ite]
      by_cases r : 1 ≤ tk_v b n i ∧ tk_v b n i ≤ 9999
      · have ew : w = tk_v b n i := v3 (by omega)
        rw [if_pos (show (1 : Int) ≤ (w : Int) ∧ (w : Int) ≤ 9999 by omega), ew]
        rcases q_sounds (nI (tk_v b n i)) with ⟨-, g⟩ | ⟨-, k, -, -, -, g, -⟩
        · rw [g, Option.bind_some, if_pos rfl, if_pos ⟨⟨c, r⟩, by unfold tz_snd; rw [g]; decide⟩]
          exact ⟨by show (7 : Nat) ≠ 0; decide, μ, rfl, ht, BF.rfl' A μ⟩
        · rw [g, Option.bind_some, if_neg (show ¬ (1 : Int32) = 0 by decide), if_neg (fun z => by
            have := z.2
            unfold tz_snd at this
            rw [g] at this
            exact absurd this (by decide))]
          exact pr
      · rw [if_neg (show ¬ ((1 : Int) ≤ (w : Int) ∧ (w : Int) ≤ 9999) from fun z => r (by
          by_cases y : tk_v b n i ≤ 99999
          · have := v3 y
            omega
          · have := v4 (by omega)
            omega)), if_neg (fun z => r z.1.2)]
        exact pr
    · rw [if_neg (fun z => c (k1.mp z)), if_neg (fun z => c z.1.1)]
      exact pr
  rw [if_neg (ne 3 (by omega) c3), if_neg c3]
  by_cases c4 : s = 4
  · rw [if_pos (show nI s = 4 by rw [c4]; rfl), if_pos c4]
    exact BDR_id (q_pairM (lo := 1) (hi := 9) (w := 20) h ht ha (by omega) (by omega) (by omega) tw_at.1)
  rw [if_neg (ne 4 (by omega) c4), if_neg c4]
  by_cases c5 : s = 5
  · rw [if_pos (show nI s = 5 by rw [c5]; rfl), if_pos c5]
    exact BDR_id (q_oneM (lo := 0) (hi := 5) h ht ha (by omega) (by omega) (by omega))
  rw [if_neg (ne 5 (by omega) c5), if_neg c5]
  by_cases c6 : s = 6
  · rw [if_pos (show nI s = 6 by rw [c6]; rfl), if_pos c6]
    exact BDR_id (q_oneM (lo := 0) (hi := 9) h ht ha (by omega) (by omega) (by omega))
  rw [if_neg (ne 6 (by omega) c6), if_neg c6]
  by_cases c7 : s = 7
  · rw [if_pos (show nI s = 7 by rw [c7]; rfl), if_pos c7]
    exact BDR_id (q_oneM (lo := 0) (hi := 9) h ht ha (by omega) (by omega) (by omega))
  rw [if_neg (ne 7 (by omega) c7), if_neg c7]
  by_cases c8 : s = 8
  · rw [if_pos (show nI s = 8 by rw [c8]; rfl), if_pos c8]
    exact BDR_id (q_pairM (lo := 0) (hi := 4) (w := 20) h ht ha (by omega) (by omega) (by omega) tw_at.1)
  rw [if_neg (ne 8 (by omega) c8), if_neg c8]
  by_cases c9 : s = 9
  · rw [if_pos (show nI s = 9 by rw [c9]; rfl), if_pos c9]
    exact BDR_id (q_oneM (lo := 0) (hi := 5) h ht ha (by omega) (by omega) (by omega))
  rw [if_neg (ne 9 (by omega) c9), if_neg c9, if_pos (show nI s = 10 by rw [show s = 10 by omega]; rfl)]
  exact BDR_id (q_oneM (lo := 1) (hi := 60) h ht ha (by omega) (by omega) (by omega))
end CLS
