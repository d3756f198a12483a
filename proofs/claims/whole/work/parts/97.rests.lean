/-! ===== pairs that would rather, counted by both; rests, gladdest ===== -/
section PR
variable {μc μm : PM} {a : Nat → Int32} {w : Nat → Option Nat} {F N : Nat}
theorem own_lt {n f : Nat} (h : own w n F = some f) (hF : F ≤ 5) : f < 5 := by
  have := (own_some h).1
  omega
theorem q_ownC {c n : Nat} (hV : VF μc 1 a) (eF : a 1 = nI F) (hF : F ≤ 5) (hw : ∀ f, f < F → μc.1 c f = enc (w f)) (hwn : ∀ f y, w f = some y → y < 6) (hn : n < 6) : fX4_ownerOf μc c (nI n) = some (enc (own w n F)) := by
  have hs : ∀ f, f < F → (μc.1 c f = nI n ↔ w f = some n) := fun f hf => by
    rw [hw f hf]
    constructor
    · intro h
      exact enc_inj (o := w f) (o' := some n) h (fun y hy => by have := hwn f y hy; omega) (fun y hy => by cases hy; omega)
    · intro h
      rw [h]
      rfl
  rcases q_owner (c := c) hV eF hF (nI n) with ⟨f, k1, k2, k3, k4⟩ | ⟨k1, k2⟩
  · rw [k4]
    have k2 := (hs f k1).mp k2
    cases ho : own w n F with
    | none => exact absurd k2 (own_none ho f k1)
    | some g =>
      obtain ⟨o1, o2, o3⟩ := own_some ho
      by_cases e : f = g
      · rw [e]; rfl
      · by_cases hlt : f < g
        · exact absurd k2 (o3 f hlt)
        · exact absurd ((hs g o1).mpr o2) (k3 g (by omega))
  · rw [k2]
    cases ho : own w n F with
    | none => rfl
    | some g =>
      obtain ⟨o1, o2, o3⟩ := own_some ho
      exact absurd ((hs g o1).mpr o2) (k1 g o1)
theorem q_ratherC {c : Nat} (hV : VF μc 1 a) (eF : a 1 = nI F) (hF : F ≤ 5) (eN : a 0 = nI N) (hN : N ≤ 6) (hw : ∀ f, f < F → μc.1 c f = enc (w f)) (hwn : ∀ f y, w f = some y → y < 6) : fX4_countRather μc c = some (nI (ct_out (fun n => ct_in (fun f => prz a w F f n) F) N)) := by
  have inner : ∀ n base, n < 6 → lp (fun s : Int32 × Int32 => lbX4_countRather_35 μc c (nI n) (enc (own w n F)) s.1 s.2) go_fuel (nI base, 0) = some (.inl (nI (base + ct_in (fun f => prz a w F f n) F))) := fun n base hn => by
    have hl := lp_cnt (f := fun s : Int32 × Int32 => lbX4_countRather_35 μc c (nI n) (enc (own w n F)) s.1 s.2) (fun i => (nI (base + ct_in (fun f => prz a w F f n) i), nI i)) 0 F (.inl (nI (base + ct_in (fun f => prz a w F f n) F))) (fun i _ hi => by
      show lbX4_countRather_35 μc c (nI n) (enc (own w n F)) (nI (base + ct_in (fun f => prz a w F f n) i)) (nI i) = _
      unfold lbX4_countRather_35
      rw [v1_families hV, eF, if_neg (by rw [le_n (by omega) (by omega)]; omega), if_neg (by rw [l_le (n := 5) (by omega) (by omega)]; omega), q_wanted hV (by omega) hn, Option.bind_some, nb_01, chk_n (by omega) (by omega), cl_n (by omega), hw i hi, q_like1 hV (by omega) hn (fun y hy => hwn i y hy), Option.bind_some, nb_01, q_like0 hV hn (by omega) (fun y hy => own_lt hy hF), Option.bind_some, nb_01, add_l 1, add_l 1]
      have e : ct_in (fun f => prz a w F f n) (i + 1) = ct_in (fun f => prz a w F f n) i + if prz a w F i n = true then 1 else 0 := rfl
      rw [e]
      unfold prz
      by_cases c1 : decide (0 < wz a i n) = true
      · rw [if_pos c1, c1, Bool.true_and]
        by_cases c2 : gs_o (wz a) i n (w i) = true
        · rw [if_pos c2, c2, Bool.true_and]
          by_cases c3 : gs_o (fz a) n i (own w n F) = true
          · rw [if_pos c3, if_pos c3]
            rfl
          · rw [if_neg c3, if_neg c3]
            rfl
        · have c2 : gs_o (wz a) i n (w i) = false := by simpa using c2
          rw [if_neg (by rw [c2]; decide), c2, Bool.false_and, if_neg (by decide)]
          rfl
      · have c1 : decide (0 < wz a i n) = false := by simpa using c1
        rw [if_neg (by rw [c1]; decide), c1, Bool.false_and, if_neg (by decide)]
        rfl) (by
      show lbX4_countRather_35 μc c (nI n) (enc (own w n F)) _ (nI F) = _
      unfold lbX4_countRather_35
      rw [v1_families hV, eF, if_pos (by rw [le_n (by omega) (by omega)]; omega)]) go_fuel 0 (by omega) (by omega) (by unfold go_fuel; omega)
    exact hl
  have hl := lp_cnt (f := fun s : Int32 × Int32 => lbX4_countRather_4 μc c s.1 s.2) (fun i => (nI (ct_out (fun n => ct_in (fun f => prz a w F f n) F) i), nI i)) 0 N (nI (ct_out (fun n => ct_in (fun f => prz a w F f n) F) N)) (fun i _ hi => by
    show lbX4_countRather_4 μc c (nI (ct_out (fun n => ct_in (fun f => prz a w F f n) F) i)) (nI i) = _
    unfold lbX4_countRather_4
    rw [v1_names hV, eN, if_neg (by rw [le_n (by omega) (by omega)]; omega), if_neg (by rw [l_le (n := 6) (by omega) (by omega)]; omega), q_ownC hV eF hF hw hwn (by omega), Option.bind_some, inner i _ (by omega), Option.bind_some, add_l 1]
    rfl) (by
    show lbX4_countRather_4 μc c _ (nI N) = _
    unfold lbX4_countRather_4
    rw [v1_names hV, eN, if_pos (by rw [le_n (by omega) (by omega)]; omega)]) go_fuel 0 (by omega) (by omega) (by unfold go_fuel; omega)
  have hl : lp (fun s : Int32 × Int32 => lbX4_countRather_4 μc c s.1 s.2) go_fuel (0, 0) = some (nI (ct_out (fun n => ct_in (fun f => prz a w F f n) F) N)) := hl
  unfold fX4_countRather
  rw [hl]
  rfl
theorem gs_irr {v : Nat → Nat → Int} {i x : Nat} : gs_b v i x x = false := by
  cases h : gs_b v i x x with
  | false => rfl
  | true => exact absurd (gs_b_iff.mp h) gs_p_irr
theorem q_pairsM (hO : OB (μm.1 402)) (eF : μm.1 402 1 = nI F) (hF : F ≤ 5) (eN : μm.1 402 0 = nI N) (hN : N ≤ 6) (hr : ∀ f, f < F → encM (μm.1 411 f) (w f)) (hwi : ∀ n, n < 6 → μm.1 412 n = enc (own w n F)) (hwn : ∀ f y, w f = some y → y < 6) : fX12_pairsThatWould μm = some (nI (ct_out (fun f => ct_in (fun n => prz (μm.1 402) w F f n) N) F)) := by
  have inner : ∀ f base, f < F → lp (fun s : Int32 × Int32 => lbX12_pairsThatWould_16 μm (nI f) s.1 s.2) go_fuel (nI base, 0) = some (.inl (nI (base + ct_in (fun n => prz (μm.1 402) w F f n) N))) := fun f base hf => by
    have hl := lp_cnt (f := fun s : Int32 × Int32 => lbX12_pairsThatWould_16 μm (nI f) s.1 s.2) (fun i => (nI (base + ct_in (fun n => prz (μm.1 402) w F f n) i), nI i)) 0 N (.inl (nI (base + ct_in (fun n => prz (μm.1 402) w F f n) N))) (fun i _ hi => by
      show lbX12_pairsThatWould_16 μm (nI f) (nI (base + ct_in (fun n => prz (μm.1 402) w F f n) i)) (nI i) = _
      have e : ct_in (fun n => prz (μm.1 402) w F f n) (i + 1) = ct_in (fun n => prz (μm.1 402) w F f n) i + if prz (μm.1 402) w F f i = true then 1 else 0 := rfl
      have z : ∀ x : Int32, x + 0 = x := fun x => Int32.add_zero x
      unfold lbX12_pairsThatWould_16 jjX12_pairsThatWould_71_16 jjX12_pairsThatWould_72_16
      rw [eN, if_neg (by rw [le_n (by omega) (by omega)]; omega), chk_n (show f < 5 by omega) (by omega), cl_n (show f < 2147483648 by omega), e, z, add_l 1, add_l 1]
      by_cases hrow : μm.1 411 f = nI i
      · have hwi' : w f = some i := by
          rcases hr f hf with ⟨h1, h2⟩ | ⟨y, h1, h2⟩
          · rw [hrow] at h2
            rcases h2 with h2 | h2
            · exact absurd h2 (fun q => (neg1_ne (by omega)).mp q)
            · have := (eq_l (n := 6) (by omega) (by omega)).mp h2
              omega
          · rw [hrow] at h2
            have hy := hwn f y h1
            rw [h1, (eq_n (by omega) (by omega)).mp h2]
        rw [if_pos hrow]
        have : prz (μm.1 402) w F f i = false := by
          unfold prz
          rw [hwi']
          show (_ && (gs_b _ f i i && _)) = false
          rw [gs_irr, Bool.false_and, Bool.and_false]
        rw [this, if_neg (by decide)]
        rfl
      · rw [if_neg hrow, chk_n (show f < 5 by omega) (by omega), q_haveM hO (by omega) (by omega) (hr f hf) (hwn f), Option.bind_some, nb_01, chk_n (show i < 6 by omega) (by omega), cl_n (show i < 2147483648 by omega), hwi i (by omega), q_beM hO (by omega) (by omega) (fun y hy => own_lt hy hF), Option.bind_some, nb_01]
        unfold prz
        by_cases c1 : (decide (0 < wz (μm.1 402) f i) && gs_o (wz (μm.1 402)) f i (w f)) = true
        · rw [if_pos c1, ← Bool.and_assoc, c1, Bool.true_and]
          by_cases c3 : gs_o (fz (μm.1 402)) i f (own w i F) = true
          · rw [if_pos c3, if_pos c3]
            rfl
          · rw [if_neg c3, if_neg c3]
            rfl
        · have c1 : (decide (0 < wz (μm.1 402) f i) && gs_o (wz (μm.1 402)) f i (w f)) = false := by simpa using c1
          rw [if_neg (by rw [c1]; decide), ← Bool.and_assoc, c1, Bool.false_and, if_neg (by decide)]
          rfl) (by
      show lbX12_pairsThatWould_16 μm (nI f) _ (nI N) = _
      unfold lbX12_pairsThatWould_16
      rw [eN, if_pos (by rw [le_n (by omega) (by omega)]; omega)]) go_fuel 0 (by omega) (by omega) (by unfold go_fuel; omega)
    exact hl
  have hl := lp_cnt (f := fun s : Int32 × Int32 => lbX12_pairsThatWould_4 μm s.1 s.2) (fun i => (nI (ct_out (fun f => ct_in (fun n => prz (μm.1 402) w F f n) N) i), nI i)) 0 F (nI (ct_out (fun f => ct_in (fun n => prz (μm.1 402) w F f n) N) F)) (fun i _ hi => by
    show lbX12_pairsThatWould_4 μm (nI (ct_out (fun f => ct_in (fun n => prz (μm.1 402) w F f n) N) i)) (nI i) = _
    unfold lbX12_pairsThatWould_4
    rw [eF, if_neg (by rw [le_n (by omega) (by omega)]; omega), inner i _ hi, Option.bind_some, add_l 1]
    rfl) (by
    show lbX12_pairsThatWould_4 μm _ (nI F) = _
    unfold lbX12_pairsThatWould_4
    rw [eF, if_pos (by rw [le_n (by omega) (by omega)]; omega)]) go_fuel 0 (by omega) (by omega) (by unfold go_fuel; omega)
  have hl : lp (fun s : Int32 × Int32 => lbX12_pairsThatWould_4 μm s.1 s.2) go_fuel (0, 0) = some (nI (ct_out (fun f => ct_in (fun n => prz (μm.1 402) w F f n) N) F)) := hl
  unfold fX12_pairsThatWould
  rw [hl]
  rfl
/-- no NAME with two -/
def w_inj (w : Nat → Option Nat) (F : Nat) : Prop := ∀ f g n, f < F → g < F → w f = some n → w g = some n → f = g
theorem own_suc {n f : Nat} (h : w f ≠ some n) : own w n (f + 1) = own w n f := by
  show (match own w n f with
    | some f => some f
    | none => if w f = some n then some f else none) = _
  rw [if_neg h]
  cases own w n f <;> rfl
theorem own_new {n f : Nat} (h : own w n f = none) (hw : w f = some n) : own w n (f + 1) = some f := by
  show (match own w n f with
    | some f => some f
    | none => if w f = some n then some f else none) = _
  rw [h, if_pos hw]
theorem q_layM (hO : OB (μm.1 402)) (eF : μm.1 402 1 = nI F) (hF : F ≤ 5) (eN : μm.1 402 0 = nI N) (hN : N ≤ 6) (hr : ∀ f, f < F → encM (μm.1 411 f) (w f)) (hwn : ∀ f y, w f = some y → y < N) :
    ∃ q μ', fX12_layWith μm = some (q, μ') ∧ (∀ c, c ≠ 412 → μ'.1 c = μm.1 c) ∧ ((q = 1 ∧ w_inj w F ∧ ∀ n, n < 6 → μ'.1 412 n = enc (own w n F)) ∨ (q = 0 ∧ ¬ w_inj w F)) := by
  obtain ⟨r1, h1, μ1, rfl, h2, h3⟩ := lp_inv (f := fun s : Int32 × PM => lbX12_layWith_2 s.1 s.2) (fun s => ∃ i : Nat, i ≤ 6 ∧ s.1 = nI i ∧ (∀ j, j < i → s.2.1 412 j = -1) ∧ ∀ c, c ≠ 412 → s.2.1 c = μm.1 c) (fun s => 6 - s.1.toNatClampNeg) (fun r => ∃ μ', r = .inl μ' ∧ (∀ j, j < 6 → μ'.1 412 j = -1) ∧ ∀ c, c ≠ 412 → μ'.1 c = μm.1 c) (fun s hI => by
    obtain ⟨s1, s2⟩ := s
    obtain ⟨i, hi, e, g1, g2⟩ := hI
    have e : s1 = nI i := e
    have g1 : ∀ j, j < i → s2.1 412 j = -1 := g1
    have g2 : ∀ c, c ≠ 412 → s2.1 c = μm.1 c := g2
    subst e
    dsimp only
    unfold lbX12_layWith_2
    have hle : (6 : Int32) ≤ nI i ↔ 6 ≤ i := l_le (n := 6) (by omega) (by omega)
    by_cases h6 : 6 ≤ i
    · right
      rw [if_pos (hle.mpr h6)]
      exact ⟨_, rfl, s2, rfl, fun j hj => g1 j (by omega), g2⟩
    · left
      simp only [go_let]
      rw [if_neg (fun q => h6 (hle.mp q)), chk_n (by omega) (by omega), cl_n (by omega), add_l 1]
      refine ⟨_, rfl, ⟨i + 1, by omega, rfl, fun j hj => ?_, fun c hc => ?_⟩, ?_⟩
      · show (pm_wi s2 412 i (-1)).1 412 j = -1
        by_cases e : j = i
        · rw [e, wi_e]
        · rw [wi_i e]; exact g1 j (by omega)
      · show (pm_wi s2 412 i (-1)).1 c = _
        rw [wi_c hc]; exact g2 c hc
      · show 6 - (nI (i + 1)).toNatClampNeg < 6 - i
        rw [cl_n (by omega)]
        omega) go_fuel (0, μm) ⟨0, by omega, rfl, fun j hj => by omega, fun _ _ => rfl⟩ (by show 6 - _ < go_fuel; unfold go_fuel; omega)
  have e402 := h3 402 (by omega)
  have e411 := h3 411 (by omega)
  obtain ⟨r2, k1, k2⟩ := lp_inv (f := fun s : Int32 × PM => lbX12_layWith_23 s.1 s.2) (fun s => ∃ f : Nat, f ≤ F ∧ s.1 = nI f ∧ (∀ n, n < 6 → s.2.1 412 n = enc (own w n f)) ∧ w_inj w f ∧ ∀ c, c ≠ 412 → s.2.1 c = μm.1 c) (fun s => F - s.1.toNatClampNeg)
    (fun r => ∃ q μ', r = (q, μ') ∧ (∀ c, c ≠ 412 → μ'.1 c = μm.1 c) ∧ ((q = 1 ∧ w_inj w F ∧ ∀ n, n < 6 → μ'.1 412 n = enc (own w n F)) ∨ (q = 0 ∧ ¬ w_inj w F))) (fun s hI => by
    obtain ⟨s1, s2⟩ := s
    obtain ⟨f, hf, e, g1, g2, g3⟩ := hI
    have e : s1 = nI f := e
    have g1 : ∀ n, n < 6 → s2.1 412 n = enc (own w n f) := g1
    have g3 : ∀ c, c ≠ 412 → s2.1 c = μm.1 c := g3
    subst e
    have f402 := g3 402 (by omega)
    have f411 := g3 411 (by omega)
    dsimp only
    unfold lbX12_layWith_23
    rw [f402, eF]
    have hle : nI F ≤ nI f ↔ F ≤ f := le_n (by omega) (by omega)
    by_cases hlt : F ≤ f
    · right
      have : f = F := by omega
      subst this
      rw [if_pos (hle.mpr hlt)]
      exact ⟨_, rfl, 1, s2, rfl, g3, Or.inl ⟨rfl, g2, g1⟩⟩
    · simp only [go_let]
      rw [if_neg (fun q => hlt (hle.mp q)), chk_n (show f < 5 by omega) (by omega), cl_n (show f < 2147483648 by omega), f411, q_nameM (by rw [f402]; exact hO), q_ite, f402, eN, ti_n (show N < 2147483648 by omega), chk_n (show f < 5 by omega) (by omega)]
      have dec : F - (nI (f + 1)).toNatClampNeg < F - f := by rw [cl_n (by omega)]; omega
      rcases hr f (by omega) with ⟨o1, o2⟩ | ⟨y, o1, o2⟩
      · left
        rw [if_neg (by rcases o2 with o2 | o2 <;> rw [o2] <;> (intro q; have q1 := q.1; have q2 := q.2; revert q1 q2; first | (intro q1; exact absurd q1 (by decide)) | (intro _ q2; have : (6 : Int32).toInt = 6 := rfl; omega))), add_l 1]
        refine ⟨_, rfl, ⟨f + 1, by omega, rfl, fun n hn => ?_, fun x z n hx hz h4 h5 => ?_, g3⟩, dec⟩
        · rw [own_suc (by rw [o1]; exact fun q => by cases q)]
          exact g1 n hn
        · by_cases e1 : x = f
          · rw [e1, o1] at h4; cases h4
          · by_cases e2 : z = f
            · rw [e2, o1] at h5; cases h5
            · exact g2 x z n (by omega) (by omega) h4 h5
      · have hy := hwn f y o1
        rw [o2, if_pos (by rw [ti_n (by omega)]; omega), chk_n (show y < 6 by omega) (by omega), cl_n (show y < 2147483648 by omega), g1 y (by omega)]
        cases ho : own w y f with
        | some g =>
          right
          obtain ⟨p1, p2, p3⟩ := own_some ho
          rw [show enc (some g) = nI g from rfl, if_neg (fun q => (neg1_ne (show g < 2147483648 by omega)).mp q)]
          exact ⟨_, rfl, 0, s2, rfl, g3, Or.inr ⟨rfl, fun q => by have := q g f y (by omega) (by omega) p2 o1; omega⟩⟩
        | none =>
          left
          rw [if_pos (show enc none = -1 from rfl), chk_n (show f < 5 by omega) (by omega), chk_n (show y < 6 by omega) (by omega), add_l 1]
          refine ⟨_, rfl, ⟨f + 1, by omega, rfl, fun n hn => ?_, fun x z n hx hz h4 h5 => ?_, fun c hc => ?_⟩, dec⟩
          · show (pm_wi s2 412 y (nI f)).1 412 n = _
            by_cases e : n = y
            · rw [e, wi_e, own_new ho o1]
              rfl
            · rw [wi_i e, own_suc (by rw [o1]; exact fun q => e (Option.some.inj q).symm)]
              exact g1 n hn
          · have nn := own_none ho
            by_cases e1 : x = f
            · by_cases e2 : z = f
              · rw [e1, e2]
              · rw [e1, o1] at h4
                have h4 := Option.some.inj h4
                rw [← h4] at h5
                exact absurd h5 (nn z (by omega))
            · by_cases e2 : z = f
              · rw [e2, o1] at h5
                have h5 := Option.some.inj h5
                rw [← h5] at h4
                exact absurd h4 (nn x (by omega))
              · exact g2 x z n (by omega) (by omega) h4 h5
          · show (pm_wi s2 412 y (nI f)).1 c = _
            rw [wi_c hc]; exact g3 c hc) go_fuel (0, μ1) ⟨0, by omega, rfl, fun n hn => h2 n hn, fun f g n hf => by omega, h3⟩ (by show F - _ < go_fuel; unfold go_fuel; omega)
  obtain ⟨q, μ', rfl, k3, k4⟩ := k2
  refine ⟨q, μ', ?_, k3, k4⟩
  unfold fX12_layWith
  rw [h1, Option.bind_some]
  dsimp only [go_cs]
  rw [k1]
  rfl
end PR

def dec1 (x : Int32) : Option Nat := if 0 ≤ x.toInt then some x.toNatClampNeg else none
theorem enc_dec {x : Int32} (h : -1 ≤ x.toInt) : enc (dec1 x) = x := by
  unfold dec1
  by_cases h0 : 0 ≤ x.toInt
  · rw [if_pos h0]
    exact (nI_cl h0).symm
  · rw [if_neg h0]
    exact i_eq.mpr (by show (-1 : Int) = _; omega)
theorem dec1_some {x : Int32} {y : Nat} (h : dec1 x = some y) : x = nI y ∧ x.toInt = (y : Int) := by
  unfold dec1 at h
  by_cases h0 : 0 ≤ x.toInt
  · rw [if_pos h0] at h
    have h := Option.some.inj h
    have h2 := ti_cl h0
    rw [h] at h2
    exact ⟨by rw [← h]; exact nI_cl h0, h2.symm⟩
  · rw [if_neg h0] at h
    cases h
theorem c_rests : BOTH (fun μ => (fX11_rests μ).map (fun r => (r, μ))) fX12_rests := by
  intro μc μm h
  have hV := h.1.1
  have hOA := h.1.2.2.2
  have hO := hOA.1
  have hfb := ob_families hO
  have hnb := ob_names hO
  obtain ⟨F, eF, hF, -⟩ := nz_of (v := μm.1 402 1) (k := 6) hfb.1 (by omega)
  obtain ⟨N, eN, hN, -⟩ := nz_of (v := μm.1 402 0) (k := 7) hnb.1 (by omega)
  have tN : (μm.1 402 0).toInt = (N : Int) := by rw [eN, ti_n (by omega)]
  have hgv := hOA.2.2.2.2.1
  obtain ⟨w, ew⟩ : ∃ w : Nat → Option Nat, w = fun f => if f < 5 then dec1 (μm.1 402 (112 + f)) else none := ⟨_, rfl⟩
  have ew5 : ∀ f, f < 5 → w f = dec1 (μm.1 402 (112 + f)) := fun f hf => by rw [ew]; exact if_pos hf
  have hwN : ∀ f y, w f = some y → y < N := fun f y hy => by
    rw [ew] at hy
    dsimp only at hy
    split at hy
    · rename_i h5
      have h1 := (dec1_some hy).2
      have h2 := (hgv f h5).1
      omega
    · cases hy
  have hC : fX11_rests μc = some (nI (ct_out (fun n => ct_in (fun f => prz (μm.1 402) w F f n) F) N)) := by
    unfold fX11_rests
    rw [q_ratherC (c := 8) (w := w) hV eF (by omega) eN (by omega) (fun f hf => by
      rw [v1_given hV (by omega), ew5 f (by omega), enc_dec (ob_given hO (by omega)).1]) (fun f y hy => by have := hwN f y hy; omega)]
    rfl
  obtain ⟨r1, h1, μ1, rfl, h2, h3⟩ := lp_inv (f := fun s : Int32 × PM => lbX12_rests_2 s.1 s.2) (fun s => ∃ i : Nat, i ≤ F ∧ s.1 = nI i ∧ (∀ j, j < i → s.2.1 411 j = μm.1 402 (112 + j)) ∧ ∀ c, c ≠ 411 → s.2.1 c = μm.1 c) (fun s => F - s.1.toNatClampNeg) (fun r => ∃ μ', r = .inl μ' ∧ (∀ j, j < F → μ'.1 411 j = μm.1 402 (112 + j)) ∧ ∀ c, c ≠ 411 → μ'.1 c = μm.1 c) (fun s hI => by
    obtain ⟨s1, s2⟩ := s
    obtain ⟨i, hi, e, g1, g2⟩ := hI
    have e : s1 = nI i := e
    have g1 : ∀ j, j < i → s2.1 411 j = μm.1 402 (112 + j) := g1
    have g2 : ∀ c, c ≠ 411 → s2.1 c = μm.1 c := g2
    subst e
    have f402 : s2.1 402 = μm.1 402 := g2 402 (by omega)
    dsimp only
    unfold lbX12_rests_2
    rw [f402, eF]
    have hle : nI F ≤ nI i ↔ F ≤ i := le_n (by omega) (by omega)
    by_cases h6 : F ≤ i
    · right
      rw [if_pos (hle.mpr h6)]
      exact ⟨_, rfl, s2, rfl, fun j hj => g1 j (by omega), g2⟩
    · left
      simp only [go_let]
      rw [if_neg (fun q => h6 (hle.mp q)), l_add 112, chk_n (show 112 + i < 1792 by omega) (by omega), chk_n (show i < 5 by omega) (by omega), cl_n (show i < 2147483648 by omega), cl_n (show 112 + i < 2147483648 by omega), add_l 1]
      refine ⟨_, rfl, ⟨i + 1, by omega, rfl, fun j hj => ?_, fun c hc => ?_⟩, ?_⟩
      · show (pm_wi s2 411 i _).1 411 j = _
        by_cases e : j = i
        · rw [e, wi_e]
        · rw [wi_i e]; exact g1 j (by omega)
      · show (pm_wi s2 411 i _).1 c = _
        rw [wi_c hc]; exact g2 c hc
      · show F - (nI (i + 1)).toNatClampNeg < F - i
        rw [cl_n (by omega)]
        omega) go_fuel (0, μm) ⟨0, by omega, rfl, fun j hj => by omega, fun _ _ => rfl⟩ (by show F - _ < go_fuel; unfold go_fuel; omega)
  have e402 := h3 402 (by omega)
  have hr1 : ∀ f, f < F → encM (μ1.1 411 f) (w f) := fun f hf => by
    rw [h2 f hf, ew5 f (by omega)]
    cases hd : dec1 (μm.1 402 (112 + f)) with
    | none =>
      refine Or.inl ⟨rfl, Or.inl ?_⟩
      have := enc_dec (ob_given hO (show f < 5 by omega)).1
      rw [hd] at this
      exact this.symm
    | some y => exact Or.inr ⟨y, rfl, (dec1_some hd).1⟩
  have hinj : w_inj w F := fun f g n hf hg h4 h5 => by
    rw [ew5 f (by omega)] at h4
    rw [ew5 g (by omega)] at h5
    have q1 := dec1_some h4
    have q2 := dec1_some h5
    rcases (hgv f (by omega)).2.2 g (by omega) (by rw [q1.1, q2.1]) with q | q
    · rw [q1.1] at q
      exact absurd q (fun z => (neg1_ne (by have := hwN f n (by rw [ew5 f (by omega)]; exact h4); omega)).mp z)
    · exact q
  obtain ⟨q, μ2, k1, k2, k3⟩ := q_layM (μm := μ1) (w := w) (F := F) (N := N) (by rw [e402]; exact hO) (by rw [e402]; exact eF) (by omega) (by rw [e402]; exact eN) (by omega) hr1 hwN
  have f402 : μ2.1 402 = μm.1 402 := (k2 402 (by omega)).trans e402
  rcases k3 with ⟨rfl, -, k4⟩ | ⟨-, k4⟩
  case inr => exact absurd hinj k4
  have hM : fX12_rests μm = some (nI (ct_out (fun f => ct_in (fun n => prz (μm.1 402) w F f n) N) F), μ2) := by
    unfold fX12_rests
    rw [h1, Option.bind_some]
    dsimp only [go_cs]
    rw [k1, Option.bind_some, if_neg (show ¬ (1 : Int32) = 0 by decide), q_pairsM (μm := μ2) (w := w) (F := F) (N := N) (by rw [f402]; exact hO) (by rw [f402]; exact eF) (by omega) (by rw [f402]; exact eN) (by omega) (fun f hf => by rw [k2 411 (by omega)]; exact hr1 f hf) k4 (fun f y hy => by have := hwN f y hy; omega), f402]
    rfl
  dsimp only
  rw [hC, hM, ct_swap]
  have hfr : ∀ c, c ≠ 411 → c ≠ 412 → μ2.1 c = μm.1 c := fun c q1 q2 => (k2 c q2).trans (h3 c q1)
  have e401 := hfr 401 (by omega) (by omega)
  exact ⟨_, μc, μ2, rfl, rfl, RR_of h (EC.rfl' _) ⟨⟨by rw [e401], by rw [e401], by rw [e401], by rw [e401]⟩, hfr 403 (by omega) (by omega), hfr 404 (by omega) (by omega), hfr 405 (by omega) (by omega), fun c hc => hfr c (by omega) (by omega)⟩ (by rw [f402]; exact h.1) (by rw [f402])⟩
theorem c_gladdest (v : Int32) {μc μm : PM} (h : RR μc μm) : ∃ r, fX11_gladdest μc v = some r ∧ fX12_gladdest μm v = some r := by
  have hV := h.1.1
  have hO := h.1.2.2.2.1
  have hfb := ob_families hO
  have hnb := ob_names hO
  obtain ⟨N, eN, hN, -⟩ := nz_of (v := μm.1 402 0) (k := 7) hnb.1 (by omega)
  unfold fX11_gladdest fX12_gladdest
  rw [q_famC hV hO, q_famM hO, q_ite, q_ite]
  by_cases hf : 0 ≤ v.toInt ∧ v.toInt < (μm.1 402 1).toInt
  case neg =>
    rw [if_neg hf, if_neg hf]
    exact ⟨-1, rfl, rfl⟩
  rw [if_pos hf, if_pos hf]
  obtain ⟨f, rfl, hf5, -⟩ := nz_of (v := v) (k := 5) hf.1 (by omega)
  have hf5 : f < 5 := by omega
  obtain ⟨r, r', k1, k2, k3⟩ := lp_two (f := fun q : Int32 × Int32 => lbX11_gladdest_14 μc (nI f) q.1 q.2) (g := fun q : Int32 × Int32 => lbX12_gladdest_14 μm (nI f) q.1 q.2) (fun s t => s = t ∧ ∃ (k : Nat) (o : Option Nat), k ≤ N ∧ s.2 = nI k ∧ s.1 = enc o ∧ ∀ y, o = some y → y < k ∧ 0 < wz (μm.1 402) f y) (fun s => N - s.2.toNatClampNeg) (fun r r' => r = r')
    (fun s t hI => by
      obtain ⟨s1, s2⟩ := s
      obtain ⟨rfl, k, o, hk, e, e', ho⟩ := hI
      have e : s2 = nI k := e
      have e' : s1 = enc o := e'
      subst e e'
      dsimp only
      unfold lbX11_gladdest_14 lbX12_gladdest_14 jjX12_gladdest_45_14
      rw [v1_names hV, eN]
      have hle : nI N ≤ nI k ↔ N ≤ k := le_n (by omega) (by omega)
      by_cases hlt : N ≤ k
      · right
        rw [if_pos (hle.mpr hlt), if_pos (hle.mpr hlt)]
        exact ⟨_, _, rfl, rfl, rfl⟩
      · left
        have dec : N - (nI (k + 1)).toNatClampNeg < N - (nI k).toNatClampNeg := by rw [cl_n (by omega), cl_n (by omega)]; omega
        rw [if_neg (fun q => hlt (hle.mp q)), if_neg (fun q => hlt (hle.mp q)), if_neg (show ¬ (6 : Int32) ≤ nI k by rw [l_le (n := 6) (by omega) (by omega)]; omega), q_wanted hV hf5 (by omega), Option.bind_some, nb_01, q_like1 hV hf5 (by omega) (fun y hy => by have := (ho y hy).1; omega), Option.bind_some, nb_01, q_wantM hf5 (by omega), Option.bind_some, add_l 1]
        have stay : ∃ s' t', (some (Sum.inl (enc o, nI (k + 1))) : Option ((Int32 × Int32) ⊕ Int32)) = some (.inl s') ∧ (some (Sum.inl (enc o, nI (k + 1))) : Option ((Int32 × Int32) ⊕ Int32)) = some (.inl t') ∧ (s' = t' ∧ ∃ (k : Nat) (o : Option Nat), k ≤ N ∧ s'.2 = nI k ∧ s'.1 = enc o ∧ ∀ y, o = some y → y < k ∧ 0 < wz (μm.1 402) f y) ∧ N - s'.2.toNatClampNeg < N - (nI k).toNatClampNeg := ⟨_, _, rfl, rfl, ⟨rfl, k + 1, o, by omega, rfl, rfl, fun y hy => ⟨by have := (ho y hy).1; omega, (ho y hy).2⟩⟩, dec⟩
        have take : 0 < wz (μm.1 402) f k → ∃ s' t', (some (Sum.inl (nI k, nI (k + 1))) : Option ((Int32 × Int32) ⊕ Int32)) = some (.inl s') ∧ (some (Sum.inl (nI k, nI (k + 1))) : Option ((Int32 × Int32) ⊕ Int32)) = some (.inl t') ∧ (s' = t' ∧ ∃ (k : Nat) (o : Option Nat), k ≤ N ∧ s'.2 = nI k ∧ s'.1 = enc o ∧ ∀ y, o = some y → y < k ∧ 0 < wz (μm.1 402) f y) ∧ N - s'.2.toNatClampNeg < N - (nI k).toNatClampNeg := fun hpos => ⟨_, _, rfl, rfl, ⟨rfl, k + 1, some k, by omega, rfl, rfl, fun y hy => by cases hy; exact ⟨by omega, hpos⟩⟩, dec⟩
        have t0 : (0 : Int32).toInt = 0 := rfl
        cases o with
        | none =>
          rw [if_pos (show enc none = -1 from rfl), if_pos (show gs_o (wz (μm.1 402)) f k none = true from rfl)]
          have hz : μm.1 402 (52 + (6 * f + k)) ≤ 0 ↔ ¬ 0 < wz (μm.1 402) f k := by
            rw [i_le, t0]
            unfold wz
            omega
          by_cases c : 0 < wz (μm.1 402) f k
          · rw [if_pos (decide_eq_true c), if_neg (fun q => hz.mp q c)]
            exact take c
          · rw [if_neg (by simp [c]), if_pos (hz.mpr c)]
            exact stay
        | some y =>
          obtain ⟨hy, hyp⟩ := ho y rfl
          rw [show enc (some y) = nI y from rfl] at stay ⊢
          rw [if_neg (fun q => (neg1_ne (show y < 2147483648 by omega)).mp q), q_wantM hf5 (by omega), Option.bind_some]
          have hz : μm.1 402 (52 + (6 * f + k)) ≤ μm.1 402 (52 + (6 * f + y)) ↔ ¬ wz (μm.1 402) f y < wz (μm.1 402) f k := by
            rw [i_le]
            unfold wz
            omega
          have hg : gs_o (wz (μm.1 402)) f k (some y) = true ↔ wz (μm.1 402) f y < wz (μm.1 402) f k := by
            show gs_b (wz (μm.1 402)) f k y = true ↔ _
            rw [gs_b_iff]
            unfold gs_p
            omega
          by_cases c : wz (μm.1 402) f y < wz (μm.1 402) f k
          · rw [if_pos (decide_eq_true (show 0 < wz (μm.1 402) f k by omega)), if_pos (hg.mpr c), if_neg (fun q => hz.mp q c)]
            exact take (by omega)
          · rw [if_neg (fun q => c (hg.mp q)), if_pos (hz.mpr c)]
            by_cases d : decide (0 < wz (μm.1 402) f k) = true
            · rw [if_pos d]; exact stay
            · rw [if_neg d]; exact stay)
    go_fuel go_fuel (-1, 0) (-1, 0) ⟨rfl, 0, none, by omega, rfl, rfl, fun y hy => by cases hy⟩ (by show N - _ < go_fuel; unfold go_fuel; omega) (by show N - _ < go_fuel; unfold go_fuel; omega)
  subst k3
  exact ⟨r, by rw [k1]; rfl, by rw [k2]; rfl⟩
