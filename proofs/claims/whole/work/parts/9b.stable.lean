/-! ===== stable ===== -/
/-- a way seen from the other side -/
theorem gz_flip {a : Nat → Int32} {F N : Nat} {w v : Nat → Option Nat} (hwv : ∀ x y, w x = some y ↔ v y = some x) (h : gs_st N F (fun x y => 0 < wz a y x) (fz a) (wz a) w) : gz a F N v := by
  obtain ⟨h1, h2, h3⟩ := h
  refine ⟨fun f n hf => ?_, fun f g n h4 h5 => ?_, fun f n hf hn hacc hp => ?_⟩
  · obtain ⟨k1, k2, k3⟩ := h1 n f ((hwv n f).mpr hf)
    exact ⟨k2, k1, k3⟩
  · have q1 := (hwv n f).mpr h4
    have q2 := (hwv n g).mpr h5
    rw [q1] at q2
    exact Option.some.inj q2
  · refine Classical.byContradiction fun hno => ?_
    obtain ⟨n', q1, q2⟩ := h3 n f hn hf hacc (fun f' hf' => Classical.byContradiction fun z => hno ⟨f', (hwv n f').mp hf', z⟩)
    exact q2 (hp n' ((hwv n' f).mp q1))
theorem gz_flip2 {a : Nat → Int32} {F N : Nat} {w v : Nat → Option Nat} (hwv : ∀ x y, w x = some y ↔ v y = some x) (h : gz a F N v) : gs_st N F (fun x y => 0 < wz a y x) (fz a) (wz a) w := by
  obtain ⟨h1, h2, h3⟩ := h
  refine ⟨fun n f hn => ?_, fun n m f h4 h5 => ?_, fun n f hn hf hacc hp => ?_⟩
  · obtain ⟨k1, k2, k3⟩ := h1 f n ((hwv n f).mp hn)
    exact ⟨k2, k1, k3⟩
  · have q1 := (hwv n f).mp h4
    have q2 := (hwv m f).mp h5
    rw [q1] at q2
    exact Option.some.inj q2
  · refine Classical.byContradiction fun hno => ?_
    obtain ⟨f', q1, q2⟩ := h3 f n hf hn hacc (fun n' hn' => Classical.byContradiction fun z => hno ⟨n', (hwv n' f).mpr hn', z⟩)
    exact q2 (hp f' ((hwv n f').mpr q1))
theorem own_iff {w : Nat → Option Nat} {F n f : Nat} (hinj : ∀ f g n, w f = some n → w g = some n → f = g) (hs : ∀ f n, w f = some n → f < F) : own w n F = some f ↔ w f = some n := by
  constructor
  · intro h
    exact (own_some h).2.1
  · intro h
    cases ho : own w n F with
    | none => exact absurd h (own_none ho f (hs f n h))
    | some g => rw [hinj g f n (own_some ho).2.1 h]
/-- what the reference finds -/
def st_F (a : Nat → Int32) (F N f : Nat) (th : Bool) (i : Nat) (o : Option Nat) : Prop :=
  (o = none → ∀ c, c < i → wv a F N (dgs c) → gz a F N (wd F N (dgs c)) → wd F N (dgs c) f = none) ∧
  ∀ y, o = some y → (∃ c, c < i ∧ wv a F N (dgs c) ∧ gz a F N (wd F N (dgs c)) ∧ wd F N (dgs c) f = some y) ∧ ∀ c z, c < i → wv a F N (dgs c) → gz a F N (wd F N (dgs c)) → wd F N (dgs c) f = some z → if th = true then ¬ gs_p (wz a) f z y else ¬ gs_p (wz a) f y z
theorem q_stableM {μm : PM} {F N f : Nat} {th : Bool} (hO : OB (μm.1 402)) (eF : μm.1 402 1 = nI F) (hF : F ≤ 5) (eN : μm.1 402 0 = nI N) (hN : N ≤ 6) (hf : f < F) : ∃ o μ', lp (fun s : Int32 × Int32 × PM => lbX12_stable_15 (nI f) (if th = true then 1 else 0) s.1 s.2.1 s.2.2) go_fuel (-1, 0, μm) = some (enc o, μ') ∧ (∀ x, x ≠ 411 → x ≠ 412 → μ'.1 x = μm.1 x) ∧ st_F (μm.1 402) F N f th (7 ^ F) o := by
  have hp := pw7 F hF
  obtain ⟨r, h1, o, μ', rfl, h2, h3⟩ := lp_inv (f := fun s : Int32 × Int32 × PM => lbX12_stable_15 (nI f) (if th = true then 1 else 0) s.1 s.2.1 s.2.2) (fun s => ∃ (i : Nat) (o : Option Nat), i ≤ 7 ^ F ∧ s.2.1 = nI i ∧ s.1 = enc o ∧ (∀ x, x ≠ 411 → x ≠ 412 → s.2.2.1 x = μm.1 x) ∧ st_F (μm.1 402) F N f th i o) (fun s => 7 ^ F - s.2.1.toNatClampNeg) (fun r => ∃ o μ', r = (enc o, μ') ∧ (∀ x, x ≠ 411 → x ≠ 412 → μ'.1 x = μm.1 x) ∧ st_F (μm.1 402) F N f th (7 ^ F) o) (fun s hI => by
    obtain ⟨s0, s1, s2⟩ := s
    obtain ⟨i, o, hi, e1, e2, hfr, hst⟩ := hI
    have e1 : s1 = nI i := e1
    have e2 : s0 = enc o := e2
    have hfr : ∀ x, x ≠ 411 → x ≠ 412 → s2.1 x = μm.1 x := hfr
    subst e1 e2
    have f402 := hfr 402 (by omega) (by omega)
    dsimp only
    unfold lbX12_stable_15
    rw [q_codes (by rw [f402]; exact eF) hF, Option.bind_some]
    have hle : nI (7 ^ F) ≤ nI i ↔ 7 ^ F ≤ i := le_n (by omega) (by omega)
    by_cases hlt : 7 ^ F ≤ i
    · right
      have : i = 7 ^ F := by omega
      subst this
      rw [if_pos (hle.mpr hlt)]
      exact ⟨_, rfl, o, s2, rfl, hfr, hst⟩
    left
    rw [if_neg (fun q => hlt (hle.mp q))]
    obtain ⟨q, μ', k1, k2, k3⟩ := q_way (μm := s2) (by rw [f402]; exact hO) (by rw [f402]; exact eF) hF (by rw [f402]; exact eN) hN (c := i) (by omega)
    rw [f402] at k3
    rw [k1, Option.bind_some, add_l 1]
    dsimp only
    have hfr2 : ∀ x, x ≠ 411 → x ≠ 412 → μ'.1 x = μm.1 x := fun x q1 q2 => (k2 x q1 q2).trans (hfr x q1 q2)
    have dec : 7 ^ F - (nI (i + 1)).toNatClampNeg < 7 ^ F - (nI i).toNatClampNeg := by rw [cl_n (by omega), cl_n (by omega)]; omega
    have stay : (∀ z, wv (μm.1 402) F N (dgs i) → gz (μm.1 402) F N (wd F N (dgs i)) → wd F N (dgs i) f = some z → ∃ y, o = some y ∧ if th = true then ¬ gs_p (wz (μm.1 402)) f z y else ¬ gs_p (wz (μm.1 402)) f y z) → ∃ s', (some (Sum.inl (enc o, nI (i + 1), μ')) : Option ((Int32 × Int32 × PM) ⊕ (Int32 × PM))) = some (.inl s') ∧ (∃ (i : Nat) (o : Option Nat), i ≤ 7 ^ F ∧ s'.2.1 = nI i ∧ s'.1 = enc o ∧ (∀ x, x ≠ 411 → x ≠ 412 → s'.2.2.1 x = μm.1 x) ∧ st_F (μm.1 402) F N f th i o) ∧ 7 ^ F - s'.2.1.toNatClampNeg < 7 ^ F - (nI i).toNatClampNeg := fun hq => by
      refine ⟨_, rfl, ⟨i + 1, o, by omega, rfl, rfl, hfr2, fun ho c hc v1 v2 => ?_, fun y hy => ⟨?_, fun c z hc v1 v2 v3 => ?_⟩⟩, dec⟩
      · by_cases e : c = i
        · subst e
          cases hz : wd F N (dgs c) f with
          | none => rfl
          | some z =>
            obtain ⟨y, q1, -⟩ := hq z v1 v2 hz
            rw [ho] at q1
            cases q1
        · exact hst.1 ho c (by omega) v1 v2
      · obtain ⟨c, q1, q2⟩ := (hst.2 y hy).1
        exact ⟨c, by omega, q2⟩
      · by_cases e : c = i
        · subst e
          obtain ⟨y', q1, q2⟩ := hq z v1 v2 v3
          rw [hy] at q1
          cases q1
          exact q2
        · exact (hst.2 y hy).2 c z (by omega) v1 v2 v3
    rcases k3 with ⟨rfl, v1, v2, v3⟩ | ⟨rfl, v1⟩
    case inr =>
      rw [if_pos rfl]
      exact stay (fun z q1 q2 => absurd ⟨q1, q2⟩ v1)
    have hd7 := dgs_lt i f
    rw [if_neg (show ¬ (1 : Int32) = 0 by decide), chk_n (show f < 5 by omega) (by omega), cl_n (show f < 2147483648 by omega), v3 f hf]
    have h6 : nI (dgs i f) = 6 ↔ dgs i f = 6 := eq_l (n := 6) (by omega) (by omega)
    by_cases d6 : dgs i f = 6
    · rw [if_pos (h6.mpr d6)]
      refine stay (fun z _ _ hz => ?_)
      have := wd_some hz
      omega
    rw [if_neg (fun q => d6 (h6.mp q))]
    obtain ⟨dN, dp⟩ := (v1 f hf).resolve_left d6
    have hz0 := wd_p hf dN
    have take : (∀ y, o = some y → ∀ z, (if th = true then ¬ gs_p (wz (μm.1 402)) f z y else ¬ gs_p (wz (μm.1 402)) f y z) → if th = true then ¬ gs_p (wz (μm.1 402)) f z (dgs i f) else ¬ gs_p (wz (μm.1 402)) f (dgs i f) z) → ∃ s', (some (Sum.inl (nI (dgs i f), nI (i + 1), μ')) : Option ((Int32 × Int32 × PM) ⊕ (Int32 × PM))) = some (.inl s') ∧ (∃ (i : Nat) (o : Option Nat), i ≤ 7 ^ F ∧ s'.2.1 = nI i ∧ s'.1 = enc o ∧ (∀ x, x ≠ 411 → x ≠ 412 → s'.2.2.1 x = μm.1 x) ∧ st_F (μm.1 402) F N f th i o) ∧ 7 ^ F - s'.2.1.toNatClampNeg < 7 ^ F - (nI i).toNatClampNeg := fun hq => by
      refine ⟨_, rfl, ⟨i + 1, some (dgs i f), by omega, rfl, rfl, hfr2, fun q => (by cases q), fun y hy => ?_⟩, dec⟩
      cases hy
      refine ⟨⟨i, by omega, v1, v2, hz0⟩, fun c z hc u1 u2 u3 => ?_⟩
      by_cases e : c = i
      · subst e
        rw [hz0] at u3
        cases u3
        cases th
        · exact gs_p_irr
        · exact gs_p_irr
      · cases o with
        | none =>
          have := hst.1 rfl c (by omega) u1 u2
          rw [this] at u3
          cases u3
        | some y => exact hq y rfl z ((hst.2 y rfl).2 c z (by omega) u1 u2 u3)
    unfold jjX12_stable_78_15
    simp only [go_let]
    rw [chk_n (show f < 5 by omega) (by omega), cl_n (show f < 2147483648 by omega), v3 f hf, add_l 1]
    cases o with
    | none =>
      rw [if_pos (show enc none = -1 from rfl)]
      exact take (fun y hy => by cases hy)
    | some y =>
      have hyN : y < N := by
        obtain ⟨c, -, -, -, q⟩ := (hst.2 y rfl).1
        exact (wd_some q).2.1
      rw [if_neg (enc_n1 (by omega)), chk_n (show f < 5 by omega) (by omega), show enc (some y) = nI y from rfl] at *
      have hey : nI (dgs i f) = nI y ↔ dgs i f = y := eq_n (by omega) (by omega)
      by_cases ey : dgs i f = y
      · rw [if_pos (hey.mpr ey)]
        refine stay (fun z _ _ hz => ⟨y, rfl, ?_⟩)
        rw [hz0] at hz
        have hz := Option.some.inj hz
        rw [← hz, ey]
        cases th
        · exact gs_p_irr
        · exact gs_p_irr
      rw [if_neg (fun q => ey (hey.mp q)), q_haveM (by rw [k2 402 (by omega) (by omega), f402]; exact hO) (by omega) (by omega) (o := some y) (Or.inr ⟨y, rfl, rfl⟩) (fun z hz => by cases hz; omega), Option.bind_some, k2 402 (by omega) (by omega), f402, decide_eq_true dp, Bool.true_and, chk_n (show f < 5 by omega) (by omega)]
      have hgo : gs_o (wz (μm.1 402)) f (dgs i f) (some y) = gs_b (wz (μm.1 402)) f (dgs i f) y := rfl
      rw [hgo]
      cases th with
      | true =>
        cases hb : gs_b (wz (μm.1 402)) f (dgs i f) y with
        | true =>
          rw [if_pos (show (if true = true then (1 : Int32) else 0) = if true = true then 1 else 0 from rfl)]
          refine take (fun y' hy' z hz => ?_)
          cases hy'
          have hz : ¬ gs_p (wz (μm.1 402)) f z y := hz
          show ¬ gs_p (wz (μm.1 402)) f z (dgs i f)
          exact fun q => hz (gs_p_tr q (gs_b_iff.mp hb))
        | false =>
          rw [if_neg (show ¬ (if false = true then (1 : Int32) else 0) = if true = true then 1 else 0 by decide)]
          refine stay (fun z _ _ hz => ⟨y, rfl, ?_⟩)
          rw [hz0] at hz
          have hz := Option.some.inj hz
          rw [← hz]
          show ¬ gs_p (wz (μm.1 402)) f (dgs i f) y
          exact fun q => by rw [gs_b_iff.mpr q] at hb; cases hb
      | false =>
        cases hb : gs_b (wz (μm.1 402)) f (dgs i f) y with
        | true =>
          rw [if_neg (show ¬ (if true = true then (1 : Int32) else 0) = if false = true then 1 else 0 by decide)]
          refine stay (fun z _ _ hz => ⟨y, rfl, ?_⟩)
          rw [hz0] at hz
          have hz := Option.some.inj hz
          rw [← hz]
          show ¬ gs_p (wz (μm.1 402)) f y (dgs i f)
          exact gs_p_as (gs_b_iff.mp hb)
        | false =>
          rw [if_pos (show (if false = true then (1 : Int32) else 0) = if false = true then 1 else 0 from rfl)]
          refine take (fun y' hy' z hz => ?_)
          cases hy'
          have hz : ¬ gs_p (wz (μm.1 402)) f y z := hz
          show ¬ gs_p (wz (μm.1 402)) f (dgs i f) z
          have hyd : gs_p (wz (μm.1 402)) f y (dgs i f) := by
            rcases gs_p_tot (v := wz (μm.1 402)) (i := f) (x := dgs i f) (y := y) (fun q => by rw [gs_b_iff.mpr q] at hb; cases hb) with q | q
            · exact absurd q ey
            · exact q
          exact fun q => hz (gs_p_tr hyd q)) go_fuel (-1, 0, μm) ⟨0, none, Nat.zero_le _, rfl, rfl, fun _ _ _ => rfl, fun _ c hc => by omega, fun y hy => by cases hy⟩ (by show 7 ^ F - _ < go_fuel; unfold go_fuel; omega)
  exact ⟨o, μ', h1, h2, h3⟩
theorem gs_p_eq {v : Nat → Nat → Int} {i x y : Nat} (h1 : ¬ gs_p v i x y) (h2 : ¬ gs_p v i y x) : x = y := by
  rcases gs_p_tot h1 with h | h
  · exact h
  · exact absurd h h2
theorem c_stable (v l : Int32) (hl : l = 0 ∨ l = 1) : BOTH (fun μ => fX11_stable μ v l) (fun μ => fX12_stable μ v l) := by
  intro μc μm h
  have hV := h.1.1
  have hO := h.1.2.2.2.1
  have hfb := ob_families hO
  have hnb := ob_names hO
  obtain ⟨F, eF, hF, -⟩ := nz_of (v := μm.1 402 1) (k := 6) hfb.1 (by omega)
  obtain ⟨N, eN, hN, -⟩ := nz_of (v := μm.1 402 0) (k := 7) hnb.1 (by omega)
  dsimp only
  unfold fX11_stable fX12_stable
  rw [q_famC hV hO, q_famM hO, q_ite, q_ite]
  by_cases hf : 0 ≤ v.toInt ∧ v.toInt < (μm.1 402 1).toInt
  case neg =>
    rw [if_neg hf, if_neg hf]
    exact ⟨-1, μc, μm, rfl, rfl, h, FrC.rfl' _, FrM.rfl' _⟩
  rw [if_pos hf, if_pos hf]
  obtain ⟨f, rfl, hf5, -⟩ := nz_of (v := v) (k := F) hf.1 (by have := hf.2; rw [eF, ti_n (by omega)] at this; exact this)
  have fin : ∀ (o : Option Nat) (μ1 μ2 : PM), GB μc μ1 → μ1.1 388 f = enc o → (∀ x, x ≠ 411 → x ≠ 412 → μ2.1 x = μm.1 x) → ∃ r μc' μm', ((fX4_hasOf μ1 (nI f)).bind fun q2 => some ((q2, μ1))) = some (r, μc') ∧ ((some (enc o, μ2) : Option (Int32 × PM)).bind fun ρ9 => some ρ9) = some (r, μm') ∧ RR μc' μm' ∧ FrC μc μc' ∧ FrM μm μm' := fun o μ1 μ2 hB h388 hfr => by
    have e401 := hfr 401 (by omega) (by omega)
    have e402 := hfr 402 (by omega) (by omega)
    have hfin := RR_of h (μc' := μ1) (μm' := μ2) ⟨hB.1 0 (by omega), fun c h1 h2 => hB.1 c (by omega), fun c h1 h2 => hB.1 c (by omega), fun c h1 => hB.1 c (by omega), hB.2⟩ ⟨⟨by rw [e401], by rw [e401], by rw [e401], by rw [e401]⟩, hfr 403 (by omega) (by omega), hfr 404 (by omega) (by omega), hfr 405 (by omega) (by omega), fun c hc => hfr c (by omega) (by omega)⟩ (by rw [e402]; exact VV_eq h.1 (fun c h1 h2 => hB.1 c (by omega))) (by rw [e402])
    refine ⟨enc o, μ1, μ2, ?_, rfl, hfin⟩
    unfold fX4_hasOf
    rw [if_neg (nI_pos (by omega)), if_neg (by rw [l_le (n := 5) (by omega) (by omega)]; omega), chk_n (by omega) (by omega), cl_n (by omega), h388]
    rfl
  rcases hl with rfl | rfl
  · obtain ⟨μ1, has, had, k1, k2, k3, k4, k5, k6, k7⟩ := st_mainN hV eF (by omega) eN (by omega)
    obtain ⟨o, μ2, m1, m2, m3⟩ := q_stableM (th := false) (f := f) hO eF (by omega) eN (by omega) (by omega)
    have hgz : gz (μm.1 402) F N had := gz_flip k5 k6
    have m1 : lp (fun s : Int32 × Int32 × PM => lbX12_stable_15 (nI f) 0 s.1 s.2.1 s.2.2) go_fuel (-1, 0, μm) = some (enc o, μ2) := m1
    rw [k1, m1, Option.bind_some]
    have ho : o = had f := by
      obtain ⟨c, c1, c2, c3, c4⟩ := way_code (by omega) hgz
      have dual : ∀ w, gz (μm.1 402) F N w → (w f = none ↔ had f = none) ∧ ∀ n y, had f = some n → w f = some y → ¬ gs_p (wz (μm.1 402)) f n y := fun w hw => by
        have hwT : ∀ x y, own w x F = some y ↔ w y = some x := fun x y => own_iff (fun f g n => hw.2.1 f g n) (fun f n q => (hw.1 f n q).1)
        have hg2 := gz_flip2 hwT hw
        have hru := (gs_rural k6 k7 hg2).2 f
        refine ⟨⟨fun q => ?_, fun q => ?_⟩, fun n y q1 q2 => ?_⟩
        · cases hh : had f with
          | none => rfl
          | some n =>
            obtain ⟨x, hx⟩ := hru.mp ⟨n, (k5 n f).mpr hh⟩
            rw [(hwT x f).mp hx] at q
            cases q
        · cases hh : w f with
          | none => rfl
          | some n =>
            obtain ⟨x, hx⟩ := hru.mpr ⟨n, (hwT n f).mpr hh⟩
            rw [(k5 x f).mp hx] at q
            cases q
        · obtain ⟨x, hx1, hx2⟩ := gs_dual k6 k7 hg2 ((k5 n f).mpr q1)
          have := (hwT x f).mp hx1
          rw [q2] at this
          cases this
          exact hx2
      cases o with
      | none =>
        have := m3.1 rfl c c1 c2 c3
        rw [c4 f (by omega)] at this
        exact this.symm
      | some y =>
        obtain ⟨⟨c', d1, d2, d3, d4⟩, d5⟩ := m3.2 y rfl
        obtain ⟨e1, e2⟩ := dual _ d3
        cases hh : had f with
        | none => rw [e1.mpr hh] at d4; cases d4
        | some n =>
          have q1 := d5 c n c1 c2 c3 (by rw [c4 f (by omega)]; exact hh)
          have q1 : ¬ gs_p (wz (μm.1 402)) f y n := q1
          have q2 := e2 n y hh d4
          rw [gs_p_eq q1 q2]
    exact fin o μ1 μ2 k2 (by rw [ho]; exact k4 f (by omega)) m2
  · obtain ⟨μ1, has, had, k1, k2, k3, k4, k5, k6, k7⟩ := st_mainF hV eF (by omega) eN (by omega)
    obtain ⟨o, μ2, m1, m2, m3⟩ := q_stableM (th := true) (f := f) hO eF (by omega) eN (by omega) (by omega)
    have m1 : lp (fun s : Int32 × Int32 × PM => lbX12_stable_15 (nI f) 1 s.1 s.2.1 s.2.2) go_fuel (-1, 0, μm) = some (enc o, μ2) := m1
    rw [k1, m1, Option.bind_some]
    have ho : o = has f := by
      obtain ⟨c, c1, c2, c3, c4⟩ := way_code (by omega) k6
      cases o with
      | none =>
        have := m3.1 rfl c c1 c2 c3
        rw [c4 f (by omega)] at this
        exact this.symm
      | some y =>
        obtain ⟨⟨c', d1, d2, d3, d4⟩, d5⟩ := m3.2 y rfl
        obtain ⟨b', e1, e2⟩ := k7 _ d3 f y d4
        have q1 := d5 c b' c1 c2 c3 (by rw [c4 f (by omega)]; exact e1)
        have q1 : ¬ gs_p (wz (μm.1 402)) f b' y := q1
        rw [e1, gs_p_eq q1 e2]
    exact fin o μ1 μ2 k2 (by rw [ho]; exact k3 f (by omega)) m2
