/-! ===== behind one ===== -/
theorem az_st_len (l : Nat) : ∀ (q : List Nat) (o : Nat) (out : pz_C), (az_settle l q o out).2.2.length + (az_settle l q o out).1.length = out.length + q.length ∧ (az_settle l q o out).1.length ≤ q.length := by
  intro q
  induction q with
  | nil => intro o out; exact ⟨rfl, Nat.le_refl _⟩
  | cons x q ih =>
    intro o out
    unfold az_settle
    by_cases c : l ≤ az_rank x
    · rw [if_pos c]
      obtain ⟨k1, k2⟩ := ih (if az_rank x = 7 ∨ x = 20 then o - 1 else o) (out ++ [(x, 0)])
      rw [List.length_append] at k1
      have e1 : [(x, 0)].length = 1 := rfl
      rw [List.length_cons]
      exact ⟨by omega, by omega⟩
    · rw [if_neg c]
      exact ⟨rfl, Nat.le_refl _⟩
theorem az_rank1 : ∀ x, x < 40 → 1 ≤ az_rank x := by decide
theorem az_st_now : ∀ (q : List Nat) (o : Nat) (out : pz_C) (y : Nat), az_now q = some y → ∃ q', (az_settle 1 q o out).1 = y :: q' := by
  intro q
  induction q with
  | nil => intro o out y h; cases h
  | cons x q ih =>
    intro o out y h
    unfold az_settle
    by_cases c : 40 ≤ x
    · have e : az_now (x :: q) = some x := by
        simp [az_now, c]
      rw [e] at h
      cases h
      rw [if_neg (show ¬ 1 ≤ az_rank x by rw [az_rank40 c]; omega)]
      exact ⟨q, rfl⟩
    · have e : az_now (x :: q) = az_now q := by
        simp [az_now, c]
      rw [e] at h
      rw [if_pos (az_rank1 x (by omega))]
      exact ih _ _ y h
theorem az_bet_lt {x y : Nat} {q : List Nat} (h : az_between x q = some y) : y < 40 ∧ ¬ (az_rank y = 7 ∨ y = 20 ∨ 40 ≤ y) := by
  have dc : ∀ z, z ∈ [6, 7, 8, 9, 10, 11, 12, 13, 14, 15, 21, 22] → z < 40 ∧ ¬ (az_rank z = 7 ∨ z = 20 ∨ 40 ≤ z) := by decide
  have cm : ∀ z, pz_cmp x = some z → z ∈ [6, 7, 8, 9, 10, 11, 12, 13, 14, 15, 21, 22] := by
    intro z hz
    unfold pz_cmp at hz
    repeat' split at hz
    all_goals first | (cases hz; done) | (cases hz; decide)
  refine dc y ?_
  unfold az_between at h
  repeat' split at h
  all_goals first | exact cm y h | (cases h; done) | (cases h; decide)
theorem az_part_v {x y : Nat} {q : List Nat} (h : az_part x q = some y) : (y = 0 ∨ y = 43 ∨ y = 44) ∧ ∃ z, az_now q = some z ∧ 40 ≤ z := by
  unfold az_part at h
  cases e : az_now q with
  | none => rw [e] at h; cases h
  | some z =>
    have hz : 40 ≤ z := by
      have := List.find?_some e
      exact of_decide_eq_true this
    rw [e] at h
    refine ⟨?_, z, rfl, hz⟩
    dsimp only at h
    repeat' split at h
    all_goals first | (cases h; done) | (cases h; decide)
theorem q_openAt0 {μ : PM} {x : Nat} {q : List Nat} (h : PLM μ (x :: q)) (hx : 40 ≤ x) : fX12_openAt μ = some (nI q.length) := by
  obtain ⟨t1, t2, t3, t4⟩ := PLM_top h
  unfold fX12_openAt
  simp only [go_let]
  rw [t1, subm1 (by omega), Nat.add_sub_cancel, show go_fuel = 99999 + 1 from rfl, lp_e (r := nI q.length) (by
    unfold lbX12_openAt_7
    rw [if_neg (nI_pos (by omega)), chk_n (show q.length < 160 by omega) (by omega), cl_n (show q.length < 2147483648 by omega), t3, if_pos (show (40 : Int32) ≤ nI x by rw [l_le (n := 40) (by omega) (by omega)]; exact hx)])]
  rfl
section BHD
variable {b : Nat → Nat} {n T : Nat}
theorem azr_lift {μ μ2 : PM} {t : Nat → Nat} {i o : Nat} {q : List Nat} {out : pz_C} {p : Option (Int32 × PM)} (E2 : EF T μ μ2) (r : AZR μ2 b n T (az_endOne t i q o out) p) : AZR μ b n T (az_endOne t i q o out) p := by
  generalize hr : az_endOne t i q o out = R at r ⊢
  cases R with
  | inl s =>
    obtain ⟨μ3, r1, r2, r3⟩ := r
    exact ⟨μ3, r1, r2, E2.tr r3⟩
  | inr e =>
    obtain ⟨μ3, r1, r2, r3, r4⟩ := r
    refine ⟨μ3, r1, r2, E2.tr r3, fun z => ?_⟩
    exfalso
    unfold az_endOne at hr
    split at hr
    · split at hr
      · cases hr
      · cases hr
        exact absurd z (show ¬ (1 : Nat) = 0 by decide)
    · cases hr
theorem oI_neg {o : Option Nat} (h : ∀ z, o = some z → z < 64) : oI o < 0 ↔ o = none := by
  cases o with
  | none => exact ⟨fun _ => rfl, fun _ => by decide⟩
  | some z =>
    have := h z rfl
    exact ⟨fun y => absurd y (nI_pos (show z < 2147483648 by omega)), fun y => by cases y⟩
theorem q_behindN {μ : PM} {i : Nat} {q : List Nat} (hT : TPM μ b n) (hM : TM μ b n (tk_pos b n i)) (hP : PLM μ q) (e1 : az_between (tk_t b n i) q = none) (e2 : az_part (tk_t b n i) q = none) : fX12_behindOne μ = some (-1, μ) := by
  unfold fX12_behindOne
  rw [q_between hT hM hP, e1, Option.bind_some, if_pos (show oI none < 0 by decide), q_openNow hP, Option.bind_some, q_part hT hM hP, e2, Option.bind_some, if_neg (show ¬ (0 : Int32) ≤ oI none by decide)]
theorem q_behindB {μ : PM} {i o y : Nat} {q : List Nat} {out : pz_C} (h : MZ μ b n T (i, q, o, true, out)) (e1 : az_between (tk_t b n i) q = some y) (hl : out.length + q.length ≤ 304) (hq : q.length < 130) : AZR μ b n T (az_behind (tk_t b n) i q o out) (fX12_behindOne μ) := by
  obtain ⟨h1, h2, h3, h4, h5, h6, h7⟩ := h
  have h2 : TM μ b n (tk_pos b n i) := h2
  have h3 : PLM μ q := h3
  have h4 : μ.1 401 17 = nI o := h4
  have h5 : o = az_c q := h5
  have h7 : OUTM μ T out := h7
  obtain ⟨y40, yc⟩ := az_bet_lt e1
  have hr := q_rank y (by omega)
  have hr1 := az_rank1 y y40
  have jj : ∀ L, 1 ≤ L → L ≤ 7 → AZR μ b n T (.inl (i + 1, y :: (az_settle L q o out).1, (az_settle L q o out).2.1, false, (az_settle L q o out).2.2)) (jjX12_behindOne_26 μ (nI y) (nI L)) := by
    intro L l1 l7
    obtain ⟨μ1, k1, k2, k3, k4, k5, k6, k7⟩ := q_settle (least := L) l1 l7 h3 h7 hl (by rw [h4, h5])
    have hlen := (az_st_len L q (az_c q) out).2
    subst h5
    generalize az_settle L q (az_c q) out = S at k2 k3 k4 k5 hlen ⊢
    obtain ⟨q', o', out'⟩ := S
    have k2 : PLM μ1 q' := k2
    have k3 : OUTM μ1 T out' := k3
    have k4 : μ1.1 401 17 = nI o' := k4
    have k5 : o' = az_c q' := k5
    have hlen : q'.length ≤ q.length := hlen
    unfold jjX12_behindOne_26
    simp only [go_let]
    rw [k1, Option.bind_some, k2.1, chk_n (show q'.length < 160 by omega) (by omega), cl_n (show q'.length < 2147483648 by omega)]
    have e16 : (pm_wi μ1 406 q'.length (nI y)).1 401 16 + 1 = nI (q'.length + 1) := by rw [wi_c (by decide), k2.1, add_l 1]
    rw [e16]
    have E4 : EF T μ (pm_wi (pm_wi (pm_wi μ1 406 q'.length (nI y)) 401 16 (nI (q'.length + 1))) 401 18 0) := (((k6.wi6).wi1 (by omega)).wi1 (by omega))
    have T4 := TPM_ef h1 E4
    have M4 : TM (pm_wi (pm_wi (pm_wi μ1 406 q'.length (nI y)) 401 16 (nI (q'.length + 1))) 401 18 0) b n (tk_pos b n i) := TM_sf h2 (fun j j1 j2 => by rw [wi_i (by omega), wi_i (by omega), wi_c (by decide)]; exact k7.2.1 j (by omega) (by omega) (by omega)) (by rw [wi_2, wi_2, wi_2, k7.2.2])
    have P4 : PLM (pm_wi (pm_wi (pm_wi μ1 406 q'.length (nI y)) 401 16 (nI (q'.length + 1))) 401 18 0) (y :: q') := PLM_push k2 (by omega) (by omega) (by rw [wi_i (by omega), wi_e]) (fun k hk => by rw [wi_c (by decide), wi_c (by decide), wi_i (by omega)]) (by rw [wi_c (by decide), wi_c (by decide), wi_e])
    have O4 : OUTM (pm_wi (pm_wi (pm_wi μ1 406 q'.length (nI y)) 401 16 (nI (q'.length + 1))) 401 18 0) T out' := OUTM_eq k3 (by rw [wi_i (by omega), wi_i (by omega), wi_c (by decide)]) (by rw [wi_i (by omega), wi_i (by omega), wi_c (by decide)]) (by rw [wi_c (by decide), wi_c (by decide), wi_c (by decide)])
    have e17 : (pm_wi (pm_wi (pm_wi μ1 406 q'.length (nI y)) 401 16 (nI (q'.length + 1))) 401 18 0).1 401 17 = nI o' := by rw [wi_i (by omega), wi_i (by omega), wi_c (by decide)]; exact k4
    have e18 : (pm_wi (pm_wi (pm_wi μ1 406 q'.length (nI y)) 401 16 (nI (q'.length + 1))) 401 18 0).1 401 18 = 0 := wi_e
    generalize pm_wi (pm_wi (pm_wi μ1 406 q'.length (nI y)) 401 16 (nI (q'.length + 1))) 401 18 0 = μ4 at E4 T4 M4 P4 O4 e17 e18 ⊢
    obtain ⟨μ5, m1, m2, m3⟩ := tm_next T4 M4
    rw [m1, Option.bind_some]
    refine ⟨μ5, rfl, ⟨T4.nf m2, m3, PLM_eq P4 (m2.2 16 (by omega) (by omega) (by omega) (by omega)) (m2.1 406 (by omega)), (m2.2 17 (by omega) (by omega) (by omega) (by omega)).trans e17, ?_, (m2.2 18 (by omega) (by omega) (by omega) (by omega)).trans e18, OUTM_eq O4 (m2.2 12 (by omega) (by omega) (by omega) (by omega)) (m2.2 13 (by omega) (by omega) (by omega) (by omega)) (m2.1 404 (by omega))⟩, E4.tr (m2.ef T)⟩
    show o' = az_c (y :: q')
    rw [az_c_s, if_neg yc, k5, Nat.add_zero]
  have q4 : nI (az_rank y) = 4 ↔ az_rank y = 4 := eq_l (n := 4) (by omega) (by omega)
  unfold az_behind
  rw [e1]
  unfold fX12_behindOne
  rw [q_between h1 h2 h3, e1, Option.bind_some]
  rw [show oI (some y) = nI y from rfl, if_neg (nI_pos (show y < 2147483648 by omega)), hr.1]
  dsimp only
  by_cases c : az_rank y = 4
  · rw [if_pos (q4.mpr c), if_pos c]
    exact jj 5 (by omega) (by omega)
  · rw [if_neg (fun z => c (q4.mp z)), if_neg c]
    exact jj (az_rank y) hr1 hr.2
theorem q_behindP {μ : PM} {i o y : Nat} {q : List Nat} {out : pz_C} (h : MZ μ b n T (i, q, o, true, out)) (e1 : az_between (tk_t b n i) q = none) (e2 : az_part (tk_t b n i) q = some y) (hl : out.length + q.length ≤ 304) (hq : q.length < 130) : AZR μ b n T (az_behind (tk_t b n) i q o out) (fX12_behindOne μ) := by
  obtain ⟨h1, h2, h3, h4, h5, h6, h7⟩ := h
  have h2 : TM μ b n (tk_pos b n i) := h2
  have h3 : PLM μ q := h3
  have h4 : μ.1 401 17 = nI o := h4
  have h5 : o = az_c q := h5
  have h7 : OUTM μ T out := h7
  obtain ⟨yv, z, ez, z40⟩ := az_part_v e2
  have hnl := now_lt h3
  have z64 := hnl z ez
  have q44 : nI z = 44 ↔ z = 44 := eq_l (n := 44) (by omega) (by omega)
  obtain ⟨μ1, k1, k2, k3, k4, k5, k6, k7⟩ := q_settle (least := 1) (by omega) (by omega) h3 h7 hl (by rw [h4, h5])
  have k1 : fX12_settle μ 1 = some μ1 := k1
  have hlen := az_st_len 1 q (az_c q) out
  obtain ⟨q', eS⟩ := az_st_now q (az_c q) out z ez
  subst h5
  unfold az_behind
  rw [e1]
  dsimp only
  rw [e2]
  unfold fX12_behindOne
  rw [q_between h1 h2 h3, e1, Option.bind_some, if_pos (show oI none < 0 by decide), q_openNow h3, Option.bind_some, q_part h1 h2 h3, e2, Option.bind_some, ez]
  rw [show oI (some y) = nI y from rfl, show oI (some z) = nI z from rfl, if_pos (show (0 : Int32) ≤ nI y by rw [l_le (n := 0) (by omega) (by omega)]; omega), k1, Option.bind_some]
  generalize az_settle 1 q (az_c q) out = S at k2 k3 k4 k5 hlen eS ⊢
  obtain ⟨qs, o', out'⟩ := S
  have eS : qs = z :: q' := eS
  subst eS
  have k2 : PLM μ1 (z :: q') := k2
  have k3 : OUTM μ1 T out' := k3
  have k4 : μ1.1 401 17 = nI o' := k4
  have k5 : o' = az_c (z :: q') := k5
  have hlen1 : out'.length + (q'.length + 1) = out.length + q.length := hlen.1
  have hlen2 : q'.length + 1 ≤ q.length := hlen.2
  have ec : az_c (z :: q') = az_c q' + 1 := by rw [az_c_s, if_pos (Or.inr (Or.inr z40))]
  have hcl := az_c_le q'
  have M1 : TM μ1 b n (tk_pos b n i) := TM_sf h2 (fun j j1 j2 => k7.2.1 j (by omega) (by omega) (by omega)) (by rw [k7.2.2])
  have T1 := TPM_ef h1 k6
  obtain ⟨μ2, m1, m2, m3⟩ := tm_next T1 M1
  have T2 := T1.nf m2
  have P2 : PLM μ2 (z :: q') := PLM_eq k2 (m2.2 16 (by omega) (by omega) (by omega) (by omega)) (m2.1 406 (by omega))
  have O2 : OUTM μ2 T out' := OUTM_eq k3 (m2.2 12 (by omega) (by omega) (by omega) (by omega)) (m2.2 13 (by omega) (by omega) (by omega) (by omega)) (m2.1 404 (by omega))
  have E2 : EF T μ μ2 := k6.tr (m2.ef T)
  have e17 : μ2.1 401 17 = nI (az_c q' + 1) := by rw [m2.2 17 (by omega) (by omega) (by omega) (by omega), k4, k5, ec]
  obtain ⟨t1, t2, t3, t4⟩ := PLM_top P2
  rw [m1, Option.bind_some]
  by_cases c0 : y = 0
  · subst c0
    rw [if_pos (show nI 0 = 0 from rfl)]
    simp only [go_let]
    have e16 : (pm_wi μ2 401 17 (nI (az_c q'))).1 401 16 - 1 = nI q'.length := by rw [wi_i (by omega), t1, subm1 (by omega), Nat.add_sub_cancel]
    rw [e17, subm1 (by omega), Nat.add_sub_cancel, e16]
    have E4 : EF T μ (pm_wi (pm_wi μ2 401 17 (nI (az_c q'))) 401 16 (nI q'.length)) := ((E2.wi1 (by omega)).wi1 (by omega))
    have T4 := TPM_ef h1 E4
    have M4 : TM (pm_wi (pm_wi μ2 401 17 (nI (az_c q'))) 401 16 (nI q'.length)) b n (tk_pos b n (i + 1)) := TM_sf m3 (fun j j1 j2 => by rw [wi_i (by omega), wi_i (by omega)]) rfl
    have P4 : PLM (pm_wi (pm_wi μ2 401 17 (nI (az_c q'))) 401 16 (nI q'.length)) q' := PLM_tail P2 wi_e (fun k hk => by rw [wi_c (by decide), wi_c (by decide)])
    have O4 : OUTM (pm_wi (pm_wi μ2 401 17 (nI (az_c q'))) 401 16 (nI q'.length)) T out' := OUTM_eq O2 (by rw [wi_i (by omega), wi_i (by omega)]) (by rw [wi_i (by omega), wi_i (by omega)]) (by rw [wi_c (by decide), wi_c (by decide)])
    have f17 : (pm_wi (pm_wi μ2 401 17 (nI (az_c q'))) 401 16 (nI q'.length)).1 401 17 = nI (az_c q') := by rw [wi_i (by omega), wi_e]
    generalize pm_wi (pm_wi μ2 401 17 (nI (az_c q'))) 401 16 (nI q'.length) = μ4 at E4 T4 M4 P4 O4 f17 ⊢
    have eo : o' - 1 = az_c q' := by rw [k5, ec, Nat.add_sub_cancel]
    show AZR μ b n T (az_endOne (tk_t b n) (i + 1) q' (o' - 1) (if some z = some 44 then out' ++ [(3, 0)] else out')) (if nI z = 44 then _ else _)
    rw [eo]
    by_cases c44 : z = 44
    · subst c44
      rw [if_pos rfl, if_pos (show nI 44 = 44 from rfl)]
      obtain ⟨μ5, w1, w2, w3, w4⟩ := q_emit (a := 3) (c := 0) O4 (by omega)
      have w1 : fX12_emit μ4 3 0 = some μ5 := w1
      rw [w1, Option.bind_some]
      unfold jjX12_behindOne_122
      rw [id_b]
      exact azr_lift (E4.tr w3) (q_endOne (TPM_ef T4 w3) (TM_sf M4 (fun j j1 j2 => w4.2.1 j (by omega)) (by rw [w4.2.2])) (PLM_eq P4 (w4.2.1 16 (by omega)) (w4.1 406 (by omega) (by omega))) ((w4.2.1 17 (by omega)).trans f17) w2 (by rw [List.length_append]; show out'.length + 1 + q'.length ≤ 304; omega))
    · rw [if_neg (show ¬ some z = some 44 from fun w => c44 (Option.some.inj w)), if_neg (fun w => c44 (q44.mp w))]
      unfold jjX12_behindOne_122
      rw [id_b]
      exact azr_lift E4 (q_endOne T4 M4 P4 f17 O4 (by omega))
  · have y64 : y < 64 := by omega
    rw [if_neg (show ¬ nI y = 0 from fun w => c0 ((eq_l (n := 0) (by omega) (by omega)).mp w)), q_openAt0 P2 z40, Option.bind_some, chk_n (show q'.length < 160 by omega) (by omega), cl_n (show q'.length < 2147483648 by omega)]
    simp only [go_let]
    have E4 : EF T μ (pm_wi (pm_wi μ2 406 q'.length (nI y)) 401 18 0) := ((E2.wi6).wi1 (by omega))
    have main : AZR μ b n T (.inl (i + 1, y :: q', o', false, out')) (some (0, pm_wi (pm_wi μ2 406 q'.length (nI y)) 401 18 0)) := by
      refine ⟨_, rfl, ⟨TPM_ef h1 E4, TM_sf m3 (fun j j1 j2 => by rw [wi_i (by omega), wi_c (by decide)]) rfl, PLM_set P2 y64 (by rw [wi_i (by omega), wi_c (by decide)]) (fun k hk => by rw [wi_c (by decide), wi_i (by omega)]) (by rw [wi_c (by decide), wi_e]), ?_, ?_, wi_e, OUTM_eq O2 (by rw [wi_i (by omega), wi_c (by decide)]) (by rw [wi_i (by omega), wi_c (by decide)]) (by rw [wi_c (by decide), wi_c (by decide)])⟩, E4⟩
      · rw [wi_i (by omega), wi_c (by decide)]
        show μ2.1 401 17 = nI o'
        rw [e17, k5, ec]
      · show o' = az_c (y :: q')
        rw [k5, ec, az_c_s, if_pos (Or.inr (Or.inr (by omega)))]
    rcases yv with e | e | e
    · exact absurd e c0
    · subst e
      exact main
    · subst e
      exact main
end BHD
