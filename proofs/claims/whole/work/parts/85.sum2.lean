/-! ===== one turn of the reference's sum; the whole of it ===== -/
theorem sum_step {kn : Nat → Int} {ice : Int → Bool} {t k op ar J E lim : Nat} {a0 a1 : Int32} {μ : PM} {vs vs' : List Int} {tr tr' : List Bool} (ht : t < 4) (hk24 : k < 24) (hJ : J < E) (hE : E ≤ 304) (hEm : μ.1 404 (681 * t + 3 + 3 * k) = nI E)
    (h1 : μ.1 404 (681 * t + 73 + 2 * J) = nI op) (h2 : μ.1 404 (681 * t + 74 + 2 * J) = nI ar) (c1 : op < 64) (c2 : ar < 10000) (c3 : op = 1 → ar < lim) (hlim : lim ≤ 9) (hk : ∀ j, j < lim → (μ.1 407 j).toInt = kn j) (hkb : ∀ j, j < 9 → -1000000 ≤ kn j ∧ kn j ≤ 1000000)
    (hi : ∀ v : Int64, fX12_iceOf μ v = some (if ice v.toInt = true then 1 else 0)) (hv : MV μ vs) (htr : MT μ tr) (hb : MB vs) (hl1 : vs.length < 320) (hl2 : tr.length < 320) (hst : mz_step kn ice (op, ar) (vs, tr) = some (vs', tr')) :
    ∃ μ', lbX12_summedUp_38 a0 a1 (nI (681 * t + 1 + 3 * k)) (nI (681 * t + 73)) (nI vs.length) (nI tr.length) (nI J) μ = some (.inl (nI vs'.length, nI tr'.length, nI (J + 1), μ')) ∧ MV μ' vs' ∧ MT μ' tr' ∧ MB vs' ∧ vs'.length ≤ vs.length + 1 ∧ tr'.length ≤ tr.length + 1 ∧ ∀ c, c ≠ 409 → μ'.1 c = μ.1 c := by
  have ne : ∀ k, k < 64 → op ≠ k → ¬ nI op = (OfNat.ofNat k : Int32) := fun k hk h q => h ((eq_l (n := k) (by omega) (by omega)).mp q)
  have i1 : nI (681 * t + 1 + 3 * k) + 2 = nI (681 * t + 3 + 3 * k) := by rw [add_l 2]; congr 1; omega
  have i2 : nI (681 * t + 73) + 2 * nI J = nI (681 * t + 73 + 2 * J) := by rw [l_mul 2, nI_add]
  have i3 : nI (681 * t + 73 + 2 * J) + 1 = nI (681 * t + 74 + 2 * J) := by rw [add_l 1]; congr 1; omega
  have fl : ∀ i v, ∀ c, c ≠ 409 → (pm_wl μ 408 i v).1 c = μ.1 c := fun i v c _ => rfl
  have fi : ∀ i v, ∀ c, c ≠ 409 → (pm_wi μ 409 i v).1 c = μ.1 c := fun i v c hc => wi_c hc
  have wlT : ∀ {i v tr}, MT μ tr → MT (pm_wl μ 408 i v) tr := fun h => h
  have wiV : ∀ {i v vs}, MV μ vs → MV (pm_wi μ 409 i v) vs := fun h => h
  unfold lbX12_summedUp_38
  simp only [go_let]
  rw [i1, i2, i3, chk_n (by omega) (by omega), cl_n (show 681 * t + 3 + 3 * k < 2147483648 by omega), hEm, if_neg (by rw [le_n (by omega) (by omega)]; omega), chk_n (by omega) (by omega), chk_n (by omega) (by omega)]
  rw [cl_n (show 681 * t + 73 + 2 * J < 2147483648 by omega), cl_n (show 681 * t + 74 + 2 * J < 2147483648 by omega), h1, h2]
  unfold mz_step at hst
  simp only [] at hst
  by_cases e0 : op = 0
  · rw [if_pos e0] at hst
    obtain ⟨rfl, rfl⟩ := Prod.mk.inj (Option.some.inj hst)
    rw [if_neg (by rw [l_lt (n := 1) (by omega) (by omega)]; omega), if_pos (by rw [e0]; rfl)]
    unfold jjX12_summedUp_112_38
    simp only [go_let]
    rw [chk_n (by omega) (by omega), add_l 1, add_l 1, cl_n (by omega)]
    exact ⟨_, rfl, MV_push hv (by rw [il, ti_n (by omega)]), wlT htr, MB_push hb (by omega), by simp, by omega, fl _ _⟩
  rw [if_neg e0] at hst
  by_cases e1 : op = 1
  · rw [if_pos e1] at hst
    obtain ⟨rfl, rfl⟩ := Prod.mk.inj (Option.some.inj hst)
    have c3 := c3 e1
    rw [if_neg (by rw [l_lt (n := 1) (by omega) (by omega)]; omega), if_neg (ne 0 (by omega) e0), chk_n (show ar < 9 by omega) (by omega)]
    unfold jjX12_summedUp_112_38
    simp only [go_let]
    rw [chk_n (by omega) (by omega), add_l 1, add_l 1, cl_n (show vs.length < 2147483648 by omega), cl_n (show ar < 2147483648 by omega)]
    exact ⟨_, rfl, MV_push hv (by rw [il]; exact hk ar c3), wlT htr, MB_push hb (hkb ar (by omega)), by simp, by omega, fl _ _⟩
  rw [if_neg e1] at hst
  rw [if_pos (by rw [l_lt (n := 1) (by omega) (by omega)]; omega)]
  by_cases e3 : op = 3
  · rw [if_pos e3] at hst
    rw [if_pos (by rw [e3]; rfl)]
    cases vs with
    | nil => cases hst
    | cons y vs =>
      cases vs with
      | nil => cases hst
      | cons x vs =>
        cases tr with
        | nil => cases hst
        | cons b tr =>
          obtain ⟨rfl, rfl⟩ := Prod.mk.inj (Option.some.inj hst)
          have hty := MT_top htr
          have hy := MV_top hv
          simp only [List.length_cons] at hl1 hl2 hy hty ⊢
          have hyb := hb y List.mem_cons_self
          rw [addm1 (L := tr.length + 1) (by omega), addm1 (L := vs.length + 1 + 1) (by omega), Nat.add_sub_cancel, Nat.add_sub_cancel, subm1 (L := vs.length + 1) (by omega), Nat.add_sub_cancel, chk_n (by omega) (by omega), cl_n (show tr.length < 2147483648 by omega), hty, add_l 1]
          cases b with
          | true =>
            rw [if_pos rfl, if_neg (by decide), if_pos rfl]
            exact ⟨μ, rfl, MV_tl hv, MT_tl htr, MB_tl hb, by simp, by omega, fun _ _ => rfl⟩
          | false =>
            rw [if_neg (show ¬ (false = true) by decide), if_pos rfl, if_neg (show ¬ (false = true) by decide), chk_n (by omega) (by omega), chk_n (by omega) (by omega), cl_n (show vs.length < 2147483648 by omega), cl_n (show vs.length + 1 < 2147483648 by omega)]
            exact ⟨_, rfl, MV_push (MV_tl (MV_tl hv)) hy, wlT (MT_tl htr), MB_push (MB_tl (MB_tl hb)) hyb, by simp, by omega, fl _ _⟩
  rw [if_neg e3] at hst
  rw [if_neg (ne 3 (by omega) e3)]
  by_cases e5 : op = 5
  · rw [if_pos e5] at hst
    rw [if_pos (by rw [e5]; rfl)]
    cases vs with
    | nil => cases hst
    | cons x vs =>
      obtain ⟨rfl, rfl⟩ := Prod.mk.inj (Option.some.inj hst)
      have hx := MV_top hv
      have hxb := hb x List.mem_cons_self
      simp only [List.length_cons] at hl1 ⊢
      unfold jjX12_summedUp_172_38 jjX12_summedUp_212_38
      simp only [go_let]
      rw [if_pos (by rw [e5]; rfl), subm1 (L := vs.length + 1) (by omega), Nat.add_sub_cancel, chk_n (by omega) (by omega), chk_n (by omega) (by omega), cl_n (show vs.length < 2147483648 by omega), add_l 1]
      exact ⟨_, rfl, MV_push (MV_tl hv) (by rw [tl_neg (by omega), hx]), wlT htr, MB_push (MB_tl hb) (by omega), by simp, by omega, fl _ _⟩
  rw [if_neg e5] at hst
  rw [if_neg (ne 5 (by omega) e5)]
  by_cases e2 : op = 2
  · rw [if_pos e2] at hst
    rw [if_pos (by rw [e2]; rfl)]
    cases vs with
    | nil => cases hst
    | cons x vs =>
      obtain ⟨rfl, rfl⟩ := Prod.mk.inj (Option.some.inj hst)
      have hx := MV_top hv
      have hxb := hb x List.mem_cons_self
      simp only [List.length_cons] at hl1 ⊢
      unfold jjX12_summedUp_172_38 jjX12_summedUp_212_38
      simp only [go_let]
      rw [if_neg (ne 5 (by omega) e5), subm1 (L := vs.length + 1) (by omega), Nat.add_sub_cancel, chk_n (by omega) (by omega), cl_n (show vs.length < 2147483648 by omega), hi, hx]
      simp only [Option.bind_some]
      rw [chk_n (by omega) (by omega), add_l 1]
      refine ⟨_, rfl, MV_push (MV_tl hv) ?_, wlT htr, MB_push (MB_tl hb) ?_, by simp, by omega, fl _ _⟩
      · cases ice x <;> decide
      · cases ice x <;> decide
  rw [if_neg e2] at hst
  rw [if_neg (ne 2 (by omega) e2)]
  by_cases e10 : op < 10
  · rw [if_pos e10] at hst
    rw [if_neg (by rw [l_le (n := 10) (by omega) (by omega)]; omega)]
    cases vs with
    | nil => cases hst
    | cons y vs =>
      cases vs with
      | nil => cases hst
      | cons x vs =>
        obtain ⟨rfl, rfl⟩ := Prod.mk.inj (Option.some.inj hst)
        have hy := MV_top hv
        have hx := MV_top (MV_tl hv)
        have hyb := hb y List.mem_cons_self
        have hxb := hb x (by simp)
        simp only [List.length_cons] at hl1 hy ⊢
        unfold jjX12_summedUp_283_38
        simp only [go_let]
        rw [addm1 (L := vs.length + 1 + 1) (by omega), Nat.add_sub_cancel, subm1 (L := vs.length + 1) (by omega), Nat.add_sub_cancel, chk_n (show vs.length < 330 by omega) (by omega), chk_n (show vs.length + 1 < 330 by omega) (by omega), cl_n (show vs.length < 2147483648 by omega), cl_n (show vs.length + 1 < 2147483648 by omega), add_l 1]
        by_cases e4 : op = 4
        · rw [if_pos (by rw [e4]; rfl)]
          obtain ⟨w, hw, hw2⟩ := q_digM (a := μ.2 408 vs.length) (b := μ.2 408 (vs.length + 1)) (by omega) (by omega)
          rw [hw]
          simp only [Option.bind_some]
          rw [chk_n (show vs.length < 330 by omega) (by omega)]
          refine ⟨_, rfl, MV_push (MV_tl (MV_tl hv)) ?_, wlT htr, MB_push (MB_tl (MB_tl hb)) ?_, by simp, by omega, fl _ _⟩
          · rw [if_pos e4, hw2, hx, hy]
          · rw [if_pos e4, ← ez_dclip]
            exact ez_clip_b _
        · rw [if_neg (ne 4 (by omega) e4)]
          obtain ⟨w, hw, hw2⟩ := q_two (op := op) (a := μ.2 408 vs.length) (b := μ.2 408 (vs.length + 1)) c1 (by omega) (by omega)
          rw [hw]
          simp only [Option.bind_some]
          rw [chk_n (show vs.length < 330 by omega) (by omega), chk_n (show vs.length + 1 < 330 by omega) (by omega), chk_n (show vs.length < 330 by omega) (by omega)]
          refine ⟨_, rfl, MV_push (MV_tl (MV_tl hv)) ?_, wlT htr, MB_push (MB_tl (MB_tl hb)) ?_, by simp, by omega, fl _ _⟩
          · rw [if_neg e4, hw2, hx, hy]
          · rw [if_neg e4]
            (repeat' split) <;> first | exact ez_clip_b _ | omega
  rw [if_neg e10] at hst
  rw [if_pos (by rw [l_le (n := 10) (by omega) (by omega)]; omega)]
  by_cases e20 : op < 20
  · rw [if_pos e20] at hst
    rw [if_neg (by rw [l_le (n := 20) (by omega) (by omega)]; omega)]
    cases vs with
    | nil => cases hst
    | cons y vs =>
      cases vs with
      | nil => cases hst
      | cons x vs =>
        obtain ⟨rfl, rfl⟩ := Prod.mk.inj (Option.some.inj hst)
        have hy := MV_top hv
        have hx := MV_top (MV_tl hv)
        simp only [List.length_cons] at hl1 hy ⊢
        rw [addm2 (L := vs.length + 1 + 1) (by omega), show vs.length + 1 + 1 - 2 = vs.length by omega, add_l 1, add_l 1, chk_n (show vs.length < 330 by omega) (by omega), chk_n (show vs.length + 1 < 330 by omega) (by omega), chk_n (show tr.length < 330 by omega) (by omega), cl_n (show vs.length < 2147483648 by omega), cl_n (show vs.length + 1 < 2147483648 by omega), cl_n (show tr.length < 2147483648 by omega), add_l 1]
        refine ⟨_, rfl, wiV (MV_tl (MV_tl hv)), MT_push htr ?_, MB_tl (MB_tl hb), by omega, by simp, fi _ _⟩
        rw [q_asked c1, hx, hy]
  rw [if_neg e20] at hst
  rw [if_pos (by rw [l_le (n := 20) (by omega) (by omega)]; omega)]
  by_cases e20 : op = 20
  · rw [if_pos e20] at hst
    rw [if_pos (by rw [e20]; rfl)]
    cases tr with
    | nil => cases hst
    | cons b tr =>
      obtain ⟨rfl, rfl⟩ := Prod.mk.inj (Option.some.inj hst)
      have hty := MT_top htr
      simp only [List.length_cons] at hl2 ⊢
      unfold jjX12_summedUp_363_38
      simp only [go_let]
      rw [subm1 (L := tr.length + 1) (by omega), Nat.add_sub_cancel, chk_n (show tr.length < 330 by omega) (by omega), chk_n (show tr.length < 330 by omega) (by omega), chk_n (show tr.length < 330 by omega) (by omega), cl_n (show tr.length < 2147483648 by omega), hty, add_l 1]
      cases b with
      | true =>
        rw [if_pos rfl, if_neg (by decide)]
        exact ⟨_, rfl, wiV hv, MT_push (MT_tl htr) rfl, hb, by omega, by simp, fi _ _⟩
      | false =>
        rw [if_neg (show ¬ (false = true) by decide), if_pos rfl]
        exact ⟨_, rfl, wiV hv, MT_push (MT_tl htr) rfl, hb, by omega, by simp, fi _ _⟩
  rw [if_neg e20] at hst
  rw [if_neg (ne 20 (by omega) e20)]
  cases tr with
  | nil => cases hst
  | cons b tr =>
    cases tr with
    | nil => cases hst
    | cons a tr =>
      obtain ⟨rfl, rfl⟩ := Prod.mk.inj (Option.some.inj hst)
      have hby := MT_top htr
      have hay := MT_top (MT_tl htr)
      simp only [List.length_cons] at hl2 hby ⊢
      rw [addm1 (L := tr.length + 1 + 1) (by omega), Nat.add_sub_cancel, subm1 (L := tr.length + 1) (by omega), Nat.add_sub_cancel, chk_n (show tr.length < 330 by omega) (by omega), chk_n (show tr.length + 1 < 330 by omega) (by omega), chk_n (show tr.length < 330 by omega) (by omega), cl_n (show tr.length < 2147483648 by omega), cl_n (show tr.length + 1 < 2147483648 by omega), add_l 1, hay, hby, q_joined c1]
      exact ⟨_, rfl, wiV hv, MT_push (MT_tl (MT_tl htr)) rfl, hb, by omega, by simp, fi _ _⟩
theorem sum_all {kn : Nat → Int} {ice : Int → Bool} {t k E lim : Nat} {a0 a1 : Int32} {x : Int} (ht : t < 4) (hk24 : k < 24) (hE : E ≤ 304) (hlim : lim ≤ 9) (hkb : ∀ j, j < 9 → -1000000 ≤ kn j ∧ kn j ≤ 1000000) :
    ∀ (ms : pz_C) J vs tr μ fuel, mz_run kn ice ms (vs, tr) = some ([x], []) → J + ms.length = E → ms.length < fuel → (∀ q ∈ ms, q.1 < 64 ∧ q.2 < 10000 ∧ (q.1 = 1 → q.2 < lim)) → μ.1 404 (681 * t + 3 + 3 * k) = nI E →
      (∀ j, j < ms.length → μ.1 404 (681 * t + 73 + 2 * (J + j)) = nI (ms.getD j (0, 0)).1 ∧ μ.1 404 (681 * t + 74 + 2 * (J + j)) = nI (ms.getD j (0, 0)).2) → (∀ j, j < lim → (μ.1 407 j).toInt = kn j) → (∀ v : Int64, fX12_iceOf μ v = some (if ice v.toInt = true then 1 else 0)) →
      MV μ vs → MT μ tr → MB vs → vs.length + ms.length < 319 → tr.length + ms.length < 319 →
      ∃ w μ', lp (fun s => lbX12_summedUp_38 a0 a1 (nI (681 * t + 1 + 3 * k)) (nI (681 * t + 73)) s.1 s.2.1 s.2.2.1 s.2.2.2) fuel (nI vs.length, nI tr.length, nI J, μ) = some (w, μ') ∧ w.toInt = x ∧ ∀ c, c ≠ 409 → μ'.1 c = μ.1 c := by
  intro ms
  induction ms with
  | nil =>
    intro J vs tr μ fuel hr hJ hf hq hEm hm hk hi hv htr hb l1 l2
    cases hr
    obtain ⟨n, rfl⟩ : ∃ n, fuel = n + 1 := ⟨fuel - 1, by simp only [List.length_nil] at hf; omega⟩
    refine ⟨μ.2 408 0, μ, lp_e ?_, MV_top hv, fun _ _ => rfl⟩
    show lbX12_summedUp_38 a0 a1 (nI (681 * t + 1 + 3 * k)) (nI (681 * t + 73)) (nI 1) (nI 0) (nI J) μ = _
    have hJ : J = E := hJ
    have i1 : nI (681 * t + 1 + 3 * k) + 2 = nI (681 * t + 3 + 3 * k) := by rw [add_l 2]; congr 1; omega
    unfold lbX12_summedUp_38
    rw [i1, chk_n (by omega) (by omega), cl_n (show 681 * t + 3 + 3 * k < 2147483648 by omega), hEm, if_pos (by rw [le_n (by omega) (by omega)]; omega)]
  | cons q ms ih =>
    intro J vs tr μ fuel hr hJ hf hq hEm hm hk hi hv htr hb l1 l2
    simp only [List.length_cons] at hJ hf l1 l2
    obtain ⟨n, rfl⟩ : ∃ n, fuel = n + 1 := ⟨fuel - 1, by omega⟩
    obtain ⟨op, ar⟩ := q
    have hr : (mz_step kn ice (op, ar) (vs, tr)).bind (mz_run kn ice ms) = some ([x], []) := hr
    obtain ⟨⟨vs', tr'⟩, hs, hr⟩ := Option.bind_eq_some_iff.mp hr
    obtain ⟨c1, c2, c3⟩ := hq (op, ar) List.mem_cons_self
    have m0 := hm 0 (by simp)
    simp only [Nat.add_zero, List.getD_cons_zero] at m0
    obtain ⟨μ1, r1, r2, r3, r4, r5, r6, r7⟩ := sum_step (a0 := a0) (a1 := a1) ht hk24 (J := J) (E := E) (by omega) hE hEm m0.1 m0.2 c1 c2 c3 hlim hk hkb hi hv htr hb (by omega) (by omega) hs
    obtain ⟨w, μ2, q1, q2, q3⟩ := ih (J + 1) vs' tr' μ1 n hr (by omega) (by omega) (fun z hz => hq z (List.mem_cons_of_mem _ hz)) (by rw [r7 404 (by omega)]; exact hEm) (fun j hj => by
      have := hm (j + 1) (by simp only [List.length_cons]; omega)
      rw [r7 404 (by omega)]
      simp only [List.getD_cons_succ] at this
      rw [show J + 1 + j = J + (j + 1) by omega]
      exact this) (fun j hj => by rw [r7 407 (by omega)]; exact hk j hj) (fun v => by
      have : fX12_iceOf μ1 v = fX12_iceOf μ v := by unfold fX12_iceOf fX12_isIce fX12_isName fX12_get; rw [r7 402 (by omega)]
      rw [this]; exact hi v) r2 r3 r4 (by omega) (by omega)
    refine ⟨w, μ2, ?_, q2, fun c hc => (q3 c hc).trans (r7 c hc)⟩
    rw [lp_l (s' := (nI vs'.length, nI tr'.length, nI (J + 1), μ1)) r1]
    exact q1
