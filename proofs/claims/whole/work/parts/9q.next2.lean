section NXT2
variable {b : Nat → Nat} {n : Nat}
theorem nt_core_q {μ : PM} {x : Nat} (h : TPM μ b n) (h7 : μ.1 401 7 = nI x) (hx : x ≤ n) : ∃ μ', nt_core μ = some μ' ∧ NF μ μ' ∧ TM μ' b n x := by
  have hn := h.2.1
  have N8 : NF μ (pm_wi μ 401 8 (nI x)) := (NF.rfl' μ).wi (by omega)
  have T8 := h.nf N8
  have e7 : (pm_wi μ 401 8 (nI x)).1 401 7 = nI x := by rw [wi_i (by omega)]; exact h7
  have e8 : (pm_wi μ 401 8 (nI x)).1 401 8 = nI x := wi_e
  unfold nt_core
  simp only [go_let]
  rw [h7, e7]
  by_cases hxn : x = n
  · rw [q_byteE T8 (by omega) (by omega), Option.bind_some, if_neg (by decide)]
    refine ⟨_, rfl, N8.wi (by omega), by rw [wi_i (by omega)]; exact e8, hx, fun _ => ⟨wi_e, by rw [wi_i (by omega), e7, hxn]⟩, fun q => absurd q (by omega)⟩
  have h256 := (T8.2.2 x (by omega)).2
  have hlt : x < n := by omega
  rw [q_byteN T8 hlt, Option.bind_some, if_pos (show (0 : Int32) ≤ nI (b x) by rw [l_le (n := 0) (by omega) (by omega)]; omega), q_isFigM _ h256, nb_01, q_isLetM _ h256, nb_01, q_isSgM _ h256, nb_01]
  by_cases hd : tk_dig (b x) = true
  · have hl : ¬ tk_let (b x) = true := fun q => by
      have q1 := of_decide_eq_true hd
      have q2 := of_decide_eq_true q
      omega
    have N9 : NF μ (pm_wi (pm_wi (pm_wi μ 401 8 (nI x)) 401 9 1) 401 10 0) := (N8.wi (by omega)).wi (by omega)
    obtain ⟨μ', k1, k2, k3, k4, k5, k6⟩ := nt_dig (μ := pm_wi (pm_wi (pm_wi μ 401 8 (nI x)) 401 9 1) 401 10 0) (h.nf N9) (by rw [wi_i (by omega), wi_i (by omega)]; exact e7) hlt hl hd wi_e
    rw [if_pos hd, k1, Option.bind_some]
    refine ⟨_, rfl, N9.tr k2, by rw [k4, wi_i (by omega), wi_i (by omega)]; exact e8, hx, fun q => absurd q hxn, fun _ => ⟨?_, k3, fun _ => k6, fun q => absurd q hl⟩⟩
    rw [k5, wi_i (by omega), wi_e]
    unfold tk_kind
    rw [if_neg hl, if_pos hd]
    rfl
  rw [if_neg hd]
  by_cases hl : tk_let (b x) = true
  · have N9 : NF μ (pm_wl (pm_wi (pm_wi μ 401 8 (nI x)) 401 9 2) 401 11 0) := (N8.wi (by omega)).wl
    obtain ⟨μ', k1, k2, k3, k4, k5, k6⟩ := nt_let (μ := pm_wl (pm_wi (pm_wi μ 401 8 (nI x)) 401 9 2) 401 11 0) (h.nf N9) (by rw [wl_1, wi_i (by omega)]; exact e7) hlt hl (by rw [wl_r, if_pos ⟨rfl, rfl⟩])
    rw [if_pos hl, k1, Option.bind_some]
    refine ⟨_, rfl, N9.tr k2, by rw [k4, wl_1, wi_i (by omega)]; exact e8, hx, fun q => absurd q hxn, fun _ => ⟨?_, k3, fun q => absurd q hd, fun _ => k6⟩⟩
    rw [k5, wl_1, wi_e]
    unfold tk_kind
    rw [if_pos hl]
    rfl
  rw [if_neg hl]
  have fin : ∀ μ', NF μ μ' → μ'.1 401 8 = nI x → μ'.1 401 9 = nI (tk_kind b n x) → μ'.1 401 7 = nI (tk_end b n x) → ∃ μ'', some μ' = some μ'' ∧ NF μ μ'' ∧ TM μ'' b n x := fun μ' f1 f2 f3 f4 => ⟨μ', rfl, f1, f2, hx, fun q => absurd q hxn, fun _ => ⟨f3, f4, fun q => absurd q hd, fun q => absurd q hl⟩⟩
  have ek : tk_kind b n x = if tk_two b n x = true ∧ b x = 60 then 4 else if tk_two b n x = true ∧ b x = 62 then 5 else if tk_sg (b x) = true then b x else 3 := by
    unfold tk_kind
    rw [if_neg hl, if_neg hd]
  have ee : tk_end b n x = if tk_two b n x = true ∧ (b x = 60 ∨ b x = 62) then x + 2 else x + 1 := by
    unfold tk_end
    rw [if_neg hl, if_neg hd]
  have q60 : nI (b x) = 60 ↔ b x = 60 := eq_l (n := 60) (by omega) (by omega)
  have q62 : nI (b x) = 62 ↔ b x = 62 := eq_l (n := 62) (by omega) (by omega)
  have key : ∀ s : Nat, s = (if tk_sg (b x) = true then b x else 3) → ∃ μ', jjX12_nextToken_247 (pm_wi μ 401 8 (nI x)) (nI (b x)) (nI s) = some μ' ∧ NF μ μ' ∧ TM μ' b n x := by
    intro s hs
    unfold jjX12_nextToken_247 jjX12_nextToken_272 jjX12_nextToken_297
    simp only [go_let]
    have e70 : (pm_wi (pm_wi μ 401 8 (nI x)) 401 9 (nI s)).1 401 7 + 1 = nI (x + 1) := by rw [wi_i (by omega), e7, add_l 1]
    rw [e70]
    have N11 : NF μ (pm_wi (pm_wi (pm_wi μ 401 8 (nI x)) 401 9 (nI s)) 401 7 (nI (x + 1))) := (N8.wi (by omega)).wi (by omega)
    have T11 := h.nf N11
    have e711 : (pm_wi (pm_wi (pm_wi μ 401 8 (nI x)) 401 9 (nI s)) 401 7 (nI (x + 1))).1 401 7 = nI (x + 1) := wi_e
    have e811 : (pm_wi (pm_wi (pm_wi μ 401 8 (nI x)) 401 9 (nI s)) 401 7 (nI (x + 1))).1 401 8 = nI x := by rw [wi_i (by omega), wi_i (by omega)]; exact e8
    have e911 : (pm_wi (pm_wi (pm_wi μ 401 8 (nI x)) 401 9 (nI s)) 401 7 (nI (x + 1))).1 401 9 = nI s := by rw [wi_i (by omega), wi_e]
    generalize pm_wi (pm_wi (pm_wi μ 401 8 (nI x)) 401 9 (nI s)) 401 7 (nI (x + 1)) = μ1 at N11 T11 e711 e811 e911 ⊢
    by_cases h2 : tk_two b n x = true
    · obtain ⟨t1, t2⟩ := of_decide_eq_true h2
      have hb1 : fX12_byteAt μ1 (μ1.1 401 7) = some (nI (b (x + 1))) := by rw [e711]; exact q_byteN T11 t1
      have e2 : ∀ v : Int32, (pm_wi μ1 401 9 v).1 401 7 + 1 = nI (x + 2) := fun v => by rw [wi_i (by omega), e711, add_l 1]
      rw [hb1, Option.bind_some, t2, if_pos (show nI 61 = 61 from rfl), e2, e2]
      by_cases c60 : b x = 60
      · rw [if_pos (q60.mpr c60), if_pos (q60.mpr c60)]
        refine fin _ ((N11.wi (by omega)).wi (by omega)) (by rw [wi_i (by omega), wi_i (by omega)]; exact e811) ?_ ?_
        · rw [wi_i (by omega), wi_e, ek, if_pos ⟨h2, c60⟩]
          rfl
        · rw [wi_e, ee, if_pos ⟨h2, Or.inl c60⟩]
      rw [if_neg (fun z => c60 (q60.mp z)), if_neg (fun z => c60 (q60.mp z))]
      by_cases c62 : b x = 62
      · rw [if_pos (q62.mpr c62)]
        refine fin _ ((N11.wi (by omega)).wi (by omega)) (by rw [wi_i (by omega), wi_i (by omega)]; exact e811) ?_ ?_
        · rw [wi_i (by omega), wi_e, ek, if_neg (fun z => c60 z.2), if_pos ⟨h2, c62⟩]
          rfl
        · rw [wi_e, ee, if_pos ⟨h2, Or.inr c62⟩]
      rw [if_neg (fun z => c62 (q62.mp z))]
      refine fin _ N11 e811 ?_ ?_
      · rw [e911, ek, if_neg (fun z => c60 z.2), if_neg (fun z => c62 z.2), hs]
      · rw [e711, ee, if_neg (fun z => z.2.elim c60 c62)]
    · have hb1 : ∃ q : Int32, fX12_byteAt μ1 (μ1.1 401 7) = some q ∧ q ≠ 61 := by
        rw [e711]
        by_cases t1 : x + 1 < n
        · have := (T11.2.2 (x + 1) (by omega)).2
          exact ⟨_, q_byteN T11 t1, fun z => h2 (decide_eq_true ⟨t1, (eq_l (n := 61) (by omega) (by omega)).mp z⟩)⟩
        · exact ⟨_, q_byteE T11 (by omega) (by omega), by decide⟩
      obtain ⟨q, hb2, hq⟩ := hb1
      rw [hb2, Option.bind_some, if_neg hq, ite_self, ite_self]
      refine fin _ N11 e811 ?_ ?_
      · rw [e911, ek, if_neg (fun z => h2 z.1), if_neg (fun z => h2 z.1), hs]
      · rw [e711, ee, if_neg (fun z => h2 z.1)]
  by_cases hg : tk_sg (b x) = true
  · rw [if_pos hg]
    exact key (b x) (by rw [if_pos hg])
  · rw [if_neg hg]
    exact key 3 (by rw [if_neg hg])
theorem nt_skip {μ : PM} {y : Nat} (h : TPM μ b n) (h7 : μ.1 401 7 = nI y) (hy : y ≤ n) : ∃ r, lp (fun s => lbX12_nextToken_0 s) go_fuel μ = some r ∧ ∃ μ', r = .inl μ' ∧ NF μ μ' ∧ μ'.1 401 7 = nI (tk_run tk_sp b n y) := by
  have hn := h.2.1
  have hle := tk_run_le (P := tk_sp) (b := b) hy
  exact lp_inv (f := fun s => lbX12_nextToken_0 s)
    (fun s => ∃ z, y ≤ z ∧ z ≤ tk_run tk_sp b n y ∧ s.1 401 7 = nI z ∧ NF μ s) (fun s => 301 - (s.1 401 7).toNatClampNeg)
    (fun r => ∃ μ', r = .inl μ' ∧ NF μ μ' ∧ μ'.1 401 7 = nI (tk_run tk_sp b n y))
    (fun s hI => by
      obtain ⟨z, z1, z2, z3, z4⟩ := hI
      have hT := h.nf z4
      unfold lbX12_nextToken_0 jjX12_nextToken_26_0
      simp only [go_let]
      rw [z3]
      by_cases hz : z = tk_run tk_sp b n y
      · right
        subst hz
        by_cases hyn : tk_run tk_sp b n y = n
        · rw [q_byteE hT (by omega) (by omega), Option.bind_some, Option.bind_some, if_neg (by decide), if_neg (by decide)]
          exact ⟨_, rfl, s, rfl, z4, z3⟩
        · rcases tk_run_end (P := tk_sp) (b := b) hy with q | q
          · exact absurd q hyn
          · have h256 := (hT.2.2 (tk_run tk_sp b n y) (by omega)).2
            have hnb := of_decide_eq_false q
            rw [q_byteN hT (by omega), Option.bind_some, Option.bind_some, if_neg (fun w => hnb (Or.inl ((eq_l (n := 32) (by omega) (by omega)).mp w))), if_neg (fun w => hnb (Or.inr ((eq_l (n := 10) (by omega) (by omega)).mp w)))]
            exact ⟨_, rfl, s, rfl, z4, z3⟩
      left
      have hP := of_decide_eq_true (tk_run_all (P := tk_sp) (b := b) (n := n) z1 (show z < tk_run tk_sp b n y by omega))
      have h256 := (hT.2.2 z (by omega)).2
      have fin : ∃ s', (some (.inl (pm_wi s 401 7 (nI z + 1))) : Option (PM ⊕ (PM ⊕ PM))) = some (.inl s') ∧ (∃ z, y ≤ z ∧ z ≤ tk_run tk_sp b n y ∧ s'.1 401 7 = nI z ∧ NF μ s') ∧ 301 - (s'.1 401 7).toNatClampNeg < 301 - (nI z).toNatClampNeg := by
        rw [add_l 1]
        exact ⟨_, rfl, ⟨z + 1, by omega, by omega, wi_e, z4.wi (Or.inl rfl)⟩, by rw [wi_e, cl_n (show z + 1 < 2147483648 by omega), cl_n (show z < 2147483648 by omega)]; omega⟩
      rw [q_byteN hT (by omega), Option.bind_some, Option.bind_some]
      rcases hP with q | q
      · rw [if_pos (show nI (b z) = 32 by rw [q]; rfl)]
        exact fin
      · rw [if_neg (fun w => by have := (eq_l (n := 32) (by omega) (by omega)).mp w; omega), if_pos (show nI (b z) = 10 by rw [q]; rfl)]
        exact fin)
    go_fuel μ ⟨y, by omega, by omega, h7, NF.rfl' μ⟩ (by unfold go_fuel; omega)
/-- the next token, wherever the reference stands -/
theorem nt_q {μ : PM} {y : Nat} (h : TPM μ b n) (h7 : μ.1 401 7 = nI y) (hy : y ≤ n) : ∃ μ', fX12_nextToken μ = some μ' ∧ NF μ μ' ∧ TM μ' b n (tk_run tk_sp b n y) := by
  have hn := h.2.1
  rw [nt_eq, h7]
  by_cases hyn : y = n
  · rw [q_byteE h (by omega) (by omega), Option.bind_some, Option.bind_some, if_neg (by decide), if_neg (by decide), tk_run_0 (by omega)]
    exact nt_core_q h h7 hy
  have h256 := (h.2.2 y (by omega)).2
  rw [q_byteN h (by omega), Option.bind_some, Option.bind_some]
  by_cases hs : tk_sp (b y) = true
  · have fin : ∃ μ', jjX12_nextToken_26 μ = some μ' ∧ NF μ μ' ∧ TM μ' b n (tk_run tk_sp b n y) := by
      have N1 : NF μ (pm_wi μ 401 7 (nI (y + 1))) := (NF.rfl' μ).wi (Or.inl rfl)
      obtain ⟨r, k1, μ1, rfl, k2, k3⟩ := nt_skip (y := y + 1) (h.nf N1) wi_e (by omega)
      rw [nt_26, h7, add_l 1, k1, Option.bind_some, tk_run_s (by omega) hs]
      have N2 := N1.tr k2
      obtain ⟨μ2, m1, m2, m3⟩ := nt_core_q (h.nf N2) k3 (tk_run_le (show y + 1 ≤ n by omega)).2
      exact ⟨μ2, m1, N2.tr m2, m3⟩
    rcases of_decide_eq_true hs with q | q
    · rw [if_pos (show nI (b y) = 32 by rw [q]; rfl)]
      exact fin
    · rw [if_neg (fun w => by have := (eq_l (n := 32) (by omega) (by omega)).mp w; omega), if_pos (show nI (b y) = 10 by rw [q]; rfl)]
      exact fin
  · have hs' : tk_sp (b y) = false := Bool.eq_false_iff.mpr hs
    have hnb := of_decide_eq_false hs'
    rw [if_neg (fun w => hnb (Or.inl ((eq_l (n := 32) (by omega) (by omega)).mp w))), if_neg (fun w => hnb (Or.inr ((eq_l (n := 10) (by omega) (by omega)).mp w))), tk_run_f hs']
    exact nt_core_q h h7 hy
end NXT2
