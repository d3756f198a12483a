/-! ===== the class's reader: its steps ===== -/
theorem tk_sign_le (x : Nat) (q : Bool) : tk_sign x q ≤ 54 := by
  unfold tk_sign
  repeat' split
  all_goals omega
theorem tk_t_le (b : Nat → Nat) (n i : Nat) : tk_t b n i ≤ 54 := by
  unfold tk_t tk_num
  repeat' split
  · exact Nat.le_trans (tk_word_le _) (by omega)
  · omega
  · exact tk_sign_le _ _
  · omega
/-- what reading leaves as it is -/
def CF (tx : Nat) (μ μ' : PM) : Prop := (∀ c, c ≠ 372 → c ≠ tx → c ≠ tx + 5 → c ≠ tx + 6 → μ'.1 c = μ.1 c) ∧ (∀ j, j ≠ 5 → j ≠ 6 → j ≠ 8 → j ≠ 9 → μ'.1 372 j = μ.1 372 j) ∧ (∀ j, j ≠ 7 → μ'.1 tx j = μ.1 tx j) ∧ μ'.2 = μ.2
theorem CF.rfl' (tx : Nat) (μ : PM) : CF tx μ μ := ⟨fun _ _ _ _ _ => rfl, fun _ _ _ _ _ => rfl, fun _ _ => rfl, rfl⟩
theorem CF.tr {tx : Nat} {a b c : PM} (h : CF tx a b) (h2 : CF tx b c) : CF tx a c := ⟨fun x k1 k2 k3 k4 => (h2.1 x k1 k2 k3 k4).trans (h.1 x k1 k2 k3 k4), fun j k1 k2 k3 k4 => (h2.2.1 j k1 k2 k3 k4).trans (h.2.1 j k1 k2 k3 k4), fun j hj => (h2.2.2.1 j hj).trans (h.2.2.1 j hj), h2.2.2.2.trans h.2.2.2⟩
theorem CF.w3 {tx i : Nat} {v : Int32} {μ μ' : PM} (h : CF tx μ μ') (htx : 343 ≤ tx ∧ tx ≤ 364) (hi : i = 5 ∨ i = 6 ∨ i = 8 ∨ i = 9) : CF tx μ (pm_wi μ' 372 i v) := ⟨fun c k1 k2 k3 k4 => (wi_c k1).trans (h.1 c k1 k2 k3 k4), fun j k1 k2 k3 k4 => (wi_i (by omega)).trans (h.2.1 j k1 k2 k3 k4), fun j hj => by rw [wi_c (by omega)]; exact h.2.2.1 j hj, h.2.2.2⟩
theorem CF.w7 {tx : Nat} {v : Int32} {μ μ' : PM} (h : CF tx μ μ') (htx : 343 ≤ tx ∧ tx ≤ 364) : CF tx μ (pm_wi μ' tx 7 v) := ⟨fun c k1 k2 k3 k4 => (wi_c k2).trans (h.1 c k1 k2 k3 k4), fun j k1 k2 k3 k4 => by rw [wi_c (by omega)]; exact h.2.1 j k1 k2 k3 k4, fun j hj => (wi_i hj).trans (h.2.2.1 j hj), h.2.2.2⟩
theorem CF.wc {tx c i : Nat} {v : Int32} {μ μ' : PM} (h : CF tx μ μ') (htx : 343 ≤ tx ∧ tx ≤ 364) (hc : c = tx + 5 ∨ c = tx + 6) : CF tx μ (pm_wi μ' c i v) := ⟨fun c' k1 k2 k3 k4 => (wi_c (by omega)).trans (h.1 c' k1 k2 k3 k4), fun j k1 k2 k3 k4 => by rw [wi_c (by omega)]; exact h.2.1 j k1 k2 k3 k4, fun j hj => by rw [wi_c (by omega)]; exact h.2.2.1 j hj, h.2.2.2⟩
/-- it stands at token i, p written -/
def CS (tx : Nat) (μ : PM) (b : Nat → Nat) (n m i p : Nat) : Prop := TKC μ b n m ∧ i ≤ m ∧ p ≤ 320 ∧ μ.1 372 5 = nI i ∧ μ.1 372 6 = nI (tk_t b n i) ∧ (μ.1 372 8 = 0 ∧ μ.1 372 9 = -1) ∧ μ.1 tx 7 = nI p
/-- it has refused -/
def CX (tx : Nat) (μ : PM) (b : Nat → Nat) (n : Nat) (e : Nat × Nat) : Prop := μ.1 372 6 = 53 ∧ μ.1 372 8 = nI e.1 ∧ e.1 ≠ 0 ∧ e.1 ≤ 7 ∧ μ.1 372 9 = nI (tk_pos b n e.2) ∧ ∃ p, p ≤ 320 ∧ μ.1 tx 7 = nI p
/-- the code that is written -/
def CW (tx : Nat) (μ : PM) (p : Nat) (c : pz_C) : Prop := ∀ k, k < c.length → μ.1 (tx + 5) (p + k) = nI (c.getD k (0, 0)).1 ∧ μ.1 (tx + 6) (p + k) = nI (c.getD k (0, 0)).2
/-- the code ahead of p stays -/
def CB (tx : Nat) (μ μ' : PM) (p : Nat) : Prop := ∀ k, k < p → μ'.1 (tx + 5) k = μ.1 (tx + 5) k ∧ μ'.1 (tx + 6) k = μ.1 (tx + 6) k
theorem CB.rfl' (tx : Nat) (μ : PM) (p : Nat) : CB tx μ μ p := fun _ _ => ⟨rfl, rfl⟩
theorem CB.tr {tx p q : Nat} {a b c : PM} (h : CB tx a b p) (h2 : CB tx b c q) (hq : p ≤ q) : CB tx a c p := fun k hk => ⟨(h2 k (by omega)).1.trans (h k hk).1, (h2 k (by omega)).2.trans (h k hk).2⟩
theorem CW_nil (tx : Nat) (μ : PM) (p : Nat) : CW tx μ p [] := fun k hk => absurd hk (Nat.not_lt_zero k)
theorem CW_cb {tx p q : Nat} {μ μ' : PM} {c : pz_C} (h : CW tx μ p c) (hb : CB tx μ μ' q) (hq : p + c.length ≤ q) : CW tx μ' p c := fun k hk => by rw [(hb (p + k) (by omega)).1, (hb (p + k) (by omega)).2]; exact h k hk
theorem CW_app {tx p : Nat} {μ : PM} {c d : pz_C} (h : CW tx μ p c) (h2 : CW tx μ (p + c.length) d) : CW tx μ p (c ++ d) := fun k hk => by
  rw [List.length_append] at hk
  by_cases q : k < c.length
  · have e : (c ++ d).getD k (0, 0) = c.getD k (0, 0) := by
      simp [List.getD_eq_getElem?_getD, List.getElem?_append_left q]
    rw [e]
    exact h k q
  · have e : (c ++ d).getD k (0, 0) = d.getD (k - c.length) (0, 0) := by
      simp [List.getD_eq_getElem?_getD, List.getElem?_append_right (Nat.le_of_not_lt q)]
    have := h2 (k - c.length) (by omega)
    rw [show p + c.length + (k - c.length) = p + k by omega] at this
    rw [e]
    exact this
theorem CW_one {tx p a v : Nat} {μ : PM} (h1 : μ.1 (tx + 5) p = nI a) (h2 : μ.1 (tx + 6) p = nI v) : CW tx μ p [(a, v)] := fun k hk => by
  have hk : k < 1 := hk
  have e : k = 0 := by omega
  subst e
  exact ⟨h1, h2⟩
section CCL
variable {b : Nat → Nat} {n m tx : Nat}
theorem TKC_cf {μ μ' : PM} (h : TKC μ b n m) (hF : CF tx μ μ') (htx : 343 ≤ tx ∧ tx ≤ 364) : TKC μ' b n m := by
  obtain ⟨k1, k2, k3, k4, k5⟩ := h
  refine ⟨k1, k2, k3, fun j hj => ?_, fun j hj ht => ?_⟩
  · rw [hF.1 373 (by omega) (by omega) (by omega) (by omega), hF.1 374 (by omega) (by omega) (by omega) (by omega)]
    exact k4 j hj
  · rw [hF.1 375 (by omega) (by omega) (by omega) (by omega)]
    exact k5 j hj ht
theorem tkc_m {μ : PM} (h : TKC μ b n m) : tk_t b n m = 53 := by
  unfold tk_t
  rw [if_neg (by rw [h.2.1]; omega)]
theorem tkc_lt {μ : PM} {i : Nat} (h : TKC μ b n m) (hi : i ≤ m) (ht : tk_t b n i ≠ 53) : i < m := by
  have : i ≠ m := fun e => ht (by rw [e]; exact tkc_m h)
  omega
theorem cs_is {μ : PM} {i p x : Nat} (h : CS tx μ b n m i p) (hx : x < 64) : μ.1 372 6 = (OfNat.ofNat x : Int32) ↔ tk_t b n i = x := by
  have := tk_t_le b n i
  rw [h.2.2.2.2.1]
  exact eq_l (n := x) (by omega) (by omega)
theorem cx_is {μ : PM} {e : Nat × Nat} (h : CX tx μ b n e) {x : Nat} (hx : x < 64) (h53 : x ≠ 53) : ¬ μ.1 372 6 = (OfNat.ofNat x : Int32) := by
  rw [h.1]
  exact fun z => h53 ((eq_l (n := x) (k := 53) (by omega) (by omega)).mp z).symm
theorem cs_adv {μ : PM} {i p : Nat} (htx : 343 ≤ tx ∧ tx ≤ 364) (h : CS tx μ b n m i p) (ht : tk_t b n i ≠ 53) : ∃ μ', fX6_advance μ = some μ' ∧ CF tx μ μ' ∧ CS tx μ' b n m (i + 1) p ∧ (∀ c, c ≠ 372 → μ'.1 c = μ.1 c) := by
  obtain ⟨h1, h2, h3, h4, h5, h6, h7⟩ := h
  have l := tkc_lt h1 h2 ht
  have hm := h1.1
  have ct := tk_t_le b n i
  unfold fX6_advance
  rw [h5, if_neg (fun z => ht ((eq_l (n := 53) (by omega) (by omega)).mp z)), h4, if_neg (nI_pos (show i < 2147483648 by omega)), if_neg (show ¬ (300 : Int32) ≤ nI i by rw [l_le (n := 300) (by omega) (by omega)]; omega)]
  simp only [go_let]
  rw [add_l 1, wi_e, chk_n (show i + 1 < 301 by omega) (by omega), cl_n (show i + 1 < 2147483648 by omega), wi_c (show 373 ≠ 372 by decide), (h1.2.2.2.1 (i + 1) (by omega)).1]
  have F : CF tx μ (pm_wi (pm_wi μ 372 5 (nI (i + 1))) 372 6 (nI (tk_t b n (i + 1)))) := (((CF.rfl' tx μ).w3 htx (by omega)).w3 htx (by omega))
  refine ⟨_, rfl, F, ⟨TKC_cf h1 F htx, by omega, h3, by rw [wi_i (by omega), wi_e], wi_e, ⟨by rw [wi_i (by omega), wi_i (by omega)]; exact h6.1, by rw [wi_i (by omega), wi_i (by omega)]; exact h6.2⟩, by rw [wi_c (by omega), wi_c (by omega)]; exact h7⟩, fun c hc => by rw [wi_c hc, wi_c hc]⟩
theorem cs_ref {μ : PM} {i p e : Nat} (htx : 343 ≤ tx ∧ tx ≤ 364) (h : CS tx μ b n m i p) (he : e ≠ 0) (he7 : e ≤ 7) : ∃ μ', fX6_refuse μ (nI e) = some μ' ∧ CF tx μ μ' ∧ CX tx μ' b n (e, i) ∧ (∀ c, c ≠ 372 → μ'.1 c = μ.1 c) := by
  obtain ⟨h1, h2, h3, h4, h5, h6, h7⟩ := h
  have hm := h1.1
  unfold fX6_refuse
  rw [if_pos h6.1, h4, if_neg (nI_pos (show i < 2147483648 by omega)), if_neg (show ¬ (300 : Int32) < nI i by rw [l_lt (n := 300) (by omega) (by omega)]; omega)]
  simp only [go_let]
  rw [wi_i (show 5 ≠ 8 by decide), h4, chk_n (show i < 301 by omega) (by omega), cl_n (show i < 2147483648 by omega), wi_c (show 374 ≠ 372 by decide), (h1.2.2.2.1 i h2).2]
  refine ⟨_, rfl, ((((CF.rfl' tx μ).w3 htx (by omega)).w3 htx (by omega)).w3 htx (by omega)), ⟨wi_e, by rw [wi_i (by omega), wi_i (by omega), wi_e], he, he7, by rw [wi_i (by omega), wi_e], p, h3, by rw [wi_c (by omega), wi_c (by omega), wi_c (by omega)]; exact h7⟩, fun c hc => by rw [wi_c hc, wi_c hc, wi_c hc]⟩
theorem cx_ref {μ : PM} {e : Nat × Nat} (htx : 343 ≤ tx ∧ tx ≤ 364) (h : CX tx μ b n e) (a : Int32) : ∃ μ', fX6_refuse μ a = some μ' ∧ CF tx μ μ' ∧ CX tx μ' b n e := by
  obtain ⟨h1, h2, h3, h4, h5, p, h6, h7⟩ := h
  unfold fX6_refuse
  rw [h2, if_neg (fun z => h3 ((eq_l (n := 0) (by omega) (by omega)).mp z))]
  simp only [go_let]
  exact ⟨_, rfl, (CF.rfl' tx μ).w3 htx (by omega), wi_e, (wi_i (by omega)).trans h2, h3, h4, (wi_i (by omega)).trans h5, p, h6, by rw [wi_c (by omega)]; exact h7⟩
theorem cx_exp {μ : PM} {e : Nat × Nat} {a : Int32} (htx : 343 ≤ tx ∧ tx ≤ 364) (h : CX tx μ b n e) (ha : a ≠ 53) : ∃ μ', fX6_expect μ a = some μ' ∧ CF tx μ μ' ∧ CX tx μ' b n e := by
  unfold fX6_expect
  rw [h.1, if_neg (fun z => ha z.symm)]
  obtain ⟨μ', k1, k2, k3⟩ := cx_ref htx h 1
  exact ⟨μ', by rw [k1, Option.bind_some], k2, k3⟩
theorem cs_exp {μ : PM} {i p x : Nat} (htx : 343 ≤ tx ∧ tx ≤ 364) (h : CS tx μ b n m i p) (hx : x < 64) (h53 : x ≠ 53) :
    (tk_t b n i = x ∧ ∃ μ', fX6_expect μ (OfNat.ofNat x : Int32) = some μ' ∧ CF tx μ μ' ∧ CS tx μ' b n m (i + 1) p ∧ (∀ c, c ≠ 372 → μ'.1 c = μ.1 c)) ∨
    (tk_t b n i ≠ x ∧ ∃ μ', fX6_expect μ (OfNat.ofNat x : Int32) = some μ' ∧ CF tx μ μ' ∧ CX tx μ' b n (1, i)) := by
  unfold fX6_expect
  have q := cs_is h hx
  by_cases c : tk_t b n i = x
  · rw [if_pos (q.mpr c)]
    obtain ⟨μ', k1, k2, k3, k4⟩ := cs_adv htx h (by rw [c]; exact h53)
    exact Or.inl ⟨c, μ', by rw [k1, Option.bind_some], k2, k3, k4⟩
  · rw [if_neg (fun z => c (q.mp z))]
    obtain ⟨μ', k1, k2, k3, -⟩ := cs_ref (e := 1) htx h (by decide) (by decide)
    have k1 : fX6_refuse μ 1 = some μ' := k1
    exact Or.inr ⟨c, μ', by rw [k1, Option.bind_some], k2, k3⟩
theorem cs_emit {μ : PM} {i p a v : Nat} (htx : 343 ≤ tx ∧ tx ≤ 364) (h : CS tx μ b n m i p) (hp : p < 320) : ∃ μ', fX8_emit μ tx (nI a) (nI v) = some (nI p, μ') ∧ CF tx μ μ' ∧ CS tx μ' b n m i (p + 1) ∧ CW tx μ' p [(a, v)] ∧ CB tx μ μ' p := by
  obtain ⟨h1, h2, h3, h4, h5, h6, h7⟩ := h
  unfold fX8_emit
  simp only [go_let]
  rw [h7, if_neg (nI_pos (show p < 2147483648 by omega)), if_neg (show ¬ (320 : Int32) ≤ nI p by rw [l_le (n := 320) (by omega) (by omega)]; omega), chk_n hp (by omega), chk_n hp (by omega), cl_n (show p < 2147483648 by omega), wi_c (show tx ≠ tx + 6 by omega), wi_c (show tx ≠ tx + 5 by omega), h7, add_l 1]
  have F : CF tx μ (pm_wi (pm_wi (pm_wi μ (tx + 5) p (nI a)) (tx + 6) p (nI v)) tx 7 (nI (p + 1))) := (((CF.rfl' tx μ).wc htx (Or.inl rfl)).wc htx (Or.inr rfl)).w7 htx
  refine ⟨_, rfl, F, ⟨TKC_cf h1 F htx, h2, by omega, ?_, ?_, ?_, wi_e⟩, CW_one ?_ ?_, fun k hk => ⟨?_, ?_⟩⟩
  · rw [wi_c (by omega), wi_c (by omega), wi_c (by omega)]; exact h4
  · rw [wi_c (by omega), wi_c (by omega), wi_c (by omega)]; exact h5
  · rw [wi_c (by omega), wi_c (by omega), wi_c (by omega)]; exact h6
  · rw [wi_c (by omega), wi_c (by omega), wi_e]
  · rw [wi_c (by omega), wi_e]
  · rw [wi_c (by omega), wi_c (by omega), wi_i (by omega)]
  · rw [wi_c (by omega), wi_i (by omega), wi_c (by omega)]
theorem cx_emit {μ : PM} {e : Nat × Nat} (htx : 343 ≤ tx ∧ tx ≤ 364) (h : CX tx μ b n e) (a v : Int32) : ∃ q μ', fX8_emit μ tx a v = some (nI q, μ') ∧ q ≤ 320 ∧ CF tx μ μ' ∧ CX tx μ' b n e := by
  obtain ⟨h1, h2, h3, h4, h5, p, h6, h7⟩ := h
  unfold fX8_emit
  simp only [go_let]
  rw [h7, if_neg (nI_pos (show p < 2147483648 by omega))]
  by_cases c : 320 ≤ p
  · rw [if_pos (show (320 : Int32) ≤ nI p by rw [l_le (n := 320) (by omega) (by omega)]; exact c)]
    exact ⟨p, μ, rfl, h6, CF.rfl' tx μ, h1, h2, h3, h4, h5, p, h6, h7⟩
  · rw [if_neg (show ¬ (320 : Int32) ≤ nI p by rw [l_le (n := 320) (by omega) (by omega)]; exact c), chk_n (by omega) (by omega), chk_n (by omega) (by omega), cl_n (show p < 2147483648 by omega), wi_c (show tx ≠ tx + 6 by omega), wi_c (show tx ≠ tx + 5 by omega), h7, add_l 1]
    refine ⟨p, _, rfl, h6, (((CF.rfl' tx μ).wc htx (Or.inl rfl)).wc htx (Or.inr rfl)).w7 htx, ?_, ?_, h3, h4, ?_, p + 1, by omega, wi_e⟩
    · rw [wi_c (by omega), wi_c (by omega), wi_c (by omega)]; exact h1
    · rw [wi_c (by omega), wi_c (by omega), wi_c (by omega)]; exact h2
    · rw [wi_c (by omega), wi_c (by omega), wi_c (by omega)]; exact h5
theorem cs_aim {μ : PM} {i p a : Nat} (htx : 343 ≤ tx ∧ tx ≤ 364) (h : CS tx μ b n m i p) (ha : a < 320) : ∃ μ', fX8_aimHere μ tx (nI a) = some μ' ∧ CF tx μ μ' ∧ CS tx μ' b n m i p ∧ μ'.1 (tx + 5) = μ.1 (tx + 5) ∧ (∀ k, k ≠ a → μ'.1 (tx + 6) k = μ.1 (tx + 6) k) ∧ μ'.1 (tx + 6) a = nI p := by
  obtain ⟨h1, h2, h3, h4, h5, h6, h7⟩ := h
  unfold fX8_aimHere
  rw [if_neg (nI_pos (show a < 2147483648 by omega)), if_neg (show ¬ (320 : Int32) ≤ nI a by rw [l_le (n := 320) (by omega) (by omega)]; omega), chk_n ha (by omega), cl_n (show a < 2147483648 by omega), h7]
  have F : CF tx μ (pm_wi μ (tx + 6) a (nI p)) := (CF.rfl' tx μ).wc htx (Or.inr rfl)
  exact ⟨_, rfl, F, ⟨TKC_cf h1 F htx, h2, h3, by rw [wi_c (by omega)]; exact h4, by rw [wi_c (by omega)]; exact h5, by rw [wi_c (by omega)]; exact h6, by rw [wi_c (by omega)]; exact h7⟩, wi_c (by omega), fun k hk => wi_i hk, wi_e⟩
theorem cx_aim {μ : PM} {e : Nat × Nat} {a : Nat} (htx : 343 ≤ tx ∧ tx ≤ 364) (h : CX tx μ b n e) (ha : a ≤ 320) : ∃ μ', fX8_aimHere μ tx (nI a) = some μ' ∧ CF tx μ μ' ∧ CX tx μ' b n e := by
  unfold fX8_aimHere
  rw [if_neg (nI_pos (show a < 2147483648 by omega))]
  by_cases c : 320 ≤ a
  · rw [if_pos (show (320 : Int32) ≤ nI a by rw [l_le (n := 320) (by omega) (by omega)]; exact c)]
    exact ⟨μ, rfl, CF.rfl' tx μ, h⟩
  · rw [if_neg (show ¬ (320 : Int32) ≤ nI a by rw [l_le (n := 320) (by omega) (by omega)]; exact c), chk_n (by omega) (by omega)]
    obtain ⟨h1, h2, h3, h4, h5, p, h6, h7⟩ := h
    exact ⟨_, rfl, (CF.rfl' tx μ).wc htx (Or.inr rfl), by rw [wi_c (by omega)]; exact h1, by rw [wi_c (by omega)]; exact h2, h3, h4, by rw [wi_c (by omega)]; exact h5, p, h6, by rw [wi_c (by omega)]; exact h7⟩
end CCL
