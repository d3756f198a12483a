/-! ===== the reference writes ===== -/
def OUTM (μ : PM) (T : Nat) (out : pz_C) : Prop := μ.1 401 12 = nI (681 * T) ∧ T < 4 ∧ out.length ≤ 304 ∧ μ.1 401 13 = nI out.length ∧ ∀ j, j < out.length → μ.1 404 (681 * T + 73 + 2 * j) = nI (out.getD j (0, 0)).1 ∧ μ.1 404 (681 * T + 74 + 2 * j) = nI (out.getD j (0, 0)).2
/-- what reading a law may change -/
def EF (T : Nat) (μ μ' : PM) : Prop := (∀ c, c ≠ 401 → c ≠ 404 → c ≠ 406 → μ'.1 c = μ.1 c) ∧ (∀ j, j ≤ 6 ∨ j = 11 ∨ j = 12 ∨ j = 14 ∨ j = 15 ∨ 19 ≤ j → μ'.1 401 j = μ.1 401 j) ∧ ∀ k, k < 681 * T + 73 ∨ 681 * T + 681 ≤ k → μ'.1 404 k = μ.1 404 k
theorem EF.rfl' (T : Nat) (μ : PM) : EF T μ μ := ⟨fun _ _ _ _ => rfl, fun _ _ => rfl, fun _ _ => rfl⟩
theorem EF.tr {T : Nat} {a b c : PM} (h : EF T a b) (h2 : EF T b c) : EF T a c := ⟨fun x k1 k2 k3 => (h2.1 x k1 k2 k3).trans (h.1 x k1 k2 k3), fun j hj => (h2.2.1 j hj).trans (h.2.1 j hj), fun k hk => (h2.2.2 k hk).trans (h.2.2 k hk)⟩
theorem NF.ef {μ μ' : PM} (h : NF μ μ') (T : Nat) : EF T μ μ' := ⟨fun c h1 _ _ => h.1 c h1, fun j hj => h.2 j (by omega) (by omega) (by omega) (by omega), fun k _ => by rw [h.1 404 (by omega)]⟩
theorem EF.wi1 {T i : Nat} {v : Int32} {μ μ' : PM} (h : EF T μ μ') (hi : (7 ≤ i ∧ i ≤ 10) ∨ i = 13 ∨ (16 ≤ i ∧ i ≤ 18)) : EF T μ (pm_wi μ' 401 i v) := ⟨fun c k1 k2 k3 => (wi_c k1).trans (h.1 c k1 k2 k3), fun j hj => (wi_i (by omega)).trans (h.2.1 j hj), fun k hk => by rw [wi_c (by omega)]; exact h.2.2 k hk⟩
theorem EF.wi6 {T i : Nat} {v : Int32} {μ μ' : PM} (h : EF T μ μ') : EF T μ (pm_wi μ' 406 i v) := ⟨fun c k1 k2 k3 => (wi_c k3).trans (h.1 c k1 k2 k3), fun j hj => by rw [wi_c (by omega)]; exact h.2.1 j hj, fun k hk => by rw [wi_c (by omega)]; exact h.2.2 k hk⟩
/-- what only the writing changes -/
def WF (μ μ' : PM) : Prop := (∀ c, c ≠ 401 → c ≠ 404 → μ'.1 c = μ.1 c) ∧ (∀ j, j ≠ 13 → μ'.1 401 j = μ.1 401 j) ∧ μ'.2 = μ.2
theorem q_emit {μ : PM} {T a c : Nat} {out : pz_C} (h : OUTM μ T out) (hl : out.length < 304) : ∃ μ', fX12_emit μ (nI a) (nI c) = some μ' ∧ OUTM μ' T (out ++ [(a, c)]) ∧ EF T μ μ' ∧ WF μ μ' := by
  obtain ⟨h1, h2, h3, h4, h5⟩ := h
  have i1 : nI (681 * T) + 73 + 2 * nI out.length = nI (681 * T + 73 + 2 * out.length) := by rw [l_mul 2, add_l 73, nI_add]
  have i2 : nI (681 * T + 73 + 2 * out.length) + 1 = nI (681 * T + 74 + 2 * out.length) := by
    rw [add_l 1]
    congr 1
    omega
  unfold fX12_emit
  simp only [go_let]
  rw [wi_c (show 401 ≠ 404 by decide), h1, h4, i1, i2, chk_n (show 681 * T + 73 + 2 * out.length < 2724 by omega) (by omega), chk_n (show 681 * T + 74 + 2 * out.length < 2724 by omega) (by omega), cl_n (show 681 * T + 73 + 2 * out.length < 2147483648 by omega), cl_n (show 681 * T + 74 + 2 * out.length < 2147483648 by omega), wi_c (show 401 ≠ 404 by decide), wi_c (show 401 ≠ 404 by decide), h4, add_l 1]
  have e0 : ∀ j v, (pm_wi (pm_wi (pm_wi μ 404 (681 * T + 73 + 2 * out.length) (nI a)) 404 (681 * T + 74 + 2 * out.length) (nI c)) 401 13 v).1 401 j = if j = 13 then v else μ.1 401 j := fun j v => by
    by_cases e : j = 13
    · rw [e, wi_e, if_pos rfl]
    · rw [wi_i e, wi_c (by decide), wi_c (by decide), if_neg e]
  have e4 : ∀ k v, (pm_wi (pm_wi (pm_wi μ 404 (681 * T + 73 + 2 * out.length) (nI a)) 404 (681 * T + 74 + 2 * out.length) (nI c)) 401 13 v).1 404 k = if k = 681 * T + 74 + 2 * out.length then nI c else if k = 681 * T + 73 + 2 * out.length then nI a else μ.1 404 k := fun k v => by
    rw [wi_c (by decide)]
    by_cases e : k = 681 * T + 74 + 2 * out.length
    · rw [e, wi_e, if_pos rfl]
    · rw [wi_i e, if_neg e]
      by_cases e' : k = 681 * T + 73 + 2 * out.length
      · rw [e', wi_e, if_pos rfl]
      · rw [wi_i e', if_neg e']
  refine ⟨_, rfl, ⟨?_, h2, ?_, ?_, fun j hj => ?_⟩, ⟨fun x k1 k2 k3 => by rw [wi_c k1, wi_c k2, wi_c k2], fun j hj => by rw [e0, if_neg (by omega)], fun k hk => by rw [e4, if_neg (by omega), if_neg (by omega)]⟩, fun x k1 k2 => by rw [wi_c k1, wi_c k2, wi_c k2], fun j hj => by rw [e0, if_neg hj], rfl⟩
  · rw [e0, if_neg (by decide)]
    exact h1
  · rw [List.length_append]
    exact hl
  · rw [e0, if_pos rfl, List.length_append]
    rfl
  · rw [List.length_append] at hj
    have hj : j < out.length + 1 := hj
    rw [e4, e4]
    by_cases e : j = out.length
    · rw [e, if_neg (by omega), if_pos rfl, if_pos rfl]
      have : (out ++ [(a, c)]).getD out.length (0, 0) = (a, c) := by
        rw [List.getD_eq_getElem?_getD, List.getElem?_append_right (Nat.le_refl _), Nat.sub_self]
        rfl
      rw [this]
      exact ⟨rfl, rfl⟩
    · rw [if_neg (by omega), if_neg (by omega), if_neg (by omega), if_neg (by omega)]
      have : (out ++ [(a, c)]).getD j (0, 0) = out.getD j (0, 0) := by
        rw [List.getD_eq_getElem?_getD, List.getElem?_append_left (by omega), List.getD_eq_getElem?_getD]
      rw [this]
      exact h5 j (by omega)
theorem st_b (a : Int32) : (fun s => lbX12_settle_0_b a s) = (fun s => lbX12_settle_0 a s) := rfl
