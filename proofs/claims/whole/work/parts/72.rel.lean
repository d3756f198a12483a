/-! ===== the relation: a memory with the class's cells, a memory with the reference's ===== -/
/-- which of the language's NAMES a law knows -/
def vz_lim (s : Nat) : Nat := if s = 0 then 6 else if s = 1 then 7 else 9
def LAWR (μc μm : PM) (t s k : Nat) : Prop := ∃ (p f : Nat) (c m : pz_C), p + c.length < 320 ∧ f + m.length ≤ 304 ∧ μc.1 (347 + 7 * t) s = nI p ∧
  (∀ j, j < c.length → μc.1 (348 + 7 * t) (p + j) = nI (c.getD j (0, 0)).1 ∧ μc.1 (349 + 7 * t) (p + j) = nI (c.getD j (0, 0)).2) ∧ μc.1 (348 + 7 * t) (p + c.length) = 53 ∧
  μm.1 404 (681 * t + 2 + 3 * k) = nI f ∧ μm.1 404 (681 * t + 3 + 3 * k) = nI (f + m.length) ∧
  (∀ j, j < m.length → μm.1 404 (681 * t + 73 + 2 * (f + j)) = nI (m.getD j (0, 0)).1 ∧ μm.1 404 (681 * t + 74 + 2 * (f + j)) = nI (m.getD j (0, 0)).2) ∧
  (∀ x ∈ c, x.1 < 64 ∧ x.2 < 10000 ∧ (x.1 = 10 → x.2 < vz_lim s)) ∧ (∀ x ∈ m, x.1 < 64 ∧ x.2 < 10000 ∧ (x.1 = 1 → x.2 < vz_lim s)) ∧
  ∀ (kn : Nat → Int) (ice : Int → Bool), (∀ j, j < 9 → -1000000 ≤ kn j ∧ kn j ≤ 1000000) → ∃ x, -1000000 ≤ x ∧ x ≤ 1000000 ∧ (∀ code, cz_has code p c → cz_to kn ice code (p, []) (p + c.length, [x])) ∧ mz_run kn ice m ([], []) = some ([x], [])
def TXR (μc μm : PM) (t : Nat) : Prop := ∃ N : Nat, N ≤ 24 ∧ μc.1 (343 + 7 * t) 6 = nI N ∧ μm.1 404 (681 * t) = nI N ∧
  (∀ k, k < N → ∃ s : Nat, s ≤ 10 ∧ μc.1 (344 + 7 * t) k = nI s ∧ μm.1 404 (681 * t + 1 + 3 * k) = nI s ∧ (3 ≤ s → μc.1 (345 + 7 * t) k = μm.1 404 (681 * t + 2 + 3 * k) ∧ (s = 3 ∨ s = 4 ∨ s = 8 → μc.1 (346 + 7 * t) k = μm.1 404 (681 * t + 3 + 3 * k)))) ∧
  ∀ s : Nat, s < 3 → (μc.1 (347 + 7 * t) s = -1 ∧ ∀ k, k < N → μm.1 404 (681 * t + 1 + 3 * k) ≠ nI s) ∨ ∃ k, k < N ∧ μm.1 404 (681 * t + 1 + 3 * k) = nI s ∧ (∀ k', k' < k → μm.1 404 (681 * t + 1 + 3 * k') ≠ nI s) ∧ LAWR μc μm t s k
/-- the tape, and the latest fault -/
def RT (μc μm : PM) : Prop := μc.1 0 13 = μm.1 401 4 ∧ (0 ≤ (μm.1 401 4).toInt ∧ (μm.1 401 4).toInt ≤ 300) ∧ (∀ k, k < 300 → μc.1 371 k = μm.1 405 k) ∧ (∀ k, k < 300 → 0 ≤ (μm.1 405 k).toInt ∧ (μm.1 405 k).toInt ≤ 255) ∧
  ((μc.1 0 14 = 0 ∧ μm.1 401 5 = -1 ∧ μm.1 401 6 = -1) ∨ (μc.1 0 14 = 1 ∧ μm.1 401 5 = μc.1 0 15 ∧ μm.1 401 6 = μc.1 0 16))
def VV (μ : PM) (q : Nat) (a : Nat → Int32) : Prop := VF μ q a ∧ VB μ q a ∧ VS μ q a ∧ OA a
def RR (μc μm : PM) : Prop := VV μc 1 (μm.1 402) ∧ VV μc 169 (μm.1 403) ∧ (μm.1 403 2).toInt ≤ (μm.1 402 2).toInt ∧ RT μc μm ∧ μm.1 401 23 = 1 ∧ ∀ t : Nat, (t : Int) < (μm.1 402 2).toInt → t < 4 → TXR μc μm t
/-- what a call of the class leaves as it is -/
def FrC (μ μ' : PM) : Prop := (∀ c, 401 ≤ c → μ'.1 c = μ.1 c) ∧ μ'.2 = μ.2
def FrM (μ μ' : PM) : Prop := ∀ c, c < 401 → μ'.1 c = μ.1 c
/-- the class touches its first Valley alone, and cells that nothing hangs on -/
def EC (μ μ' : PM) : Prop := μ'.1 0 = μ.1 0 ∧ (∀ c, 169 ≤ c → c ≤ 336 → μ'.1 c = μ.1 c) ∧ (∀ c, 343 ≤ c → c ≤ 371 → μ'.1 c = μ.1 c) ∧ FrC μ μ'
/-- the reference touches its row alone, and cells that nothing hangs on -/
def EM (μ μ' : PM) : Prop := (μ'.1 401 4 = μ.1 401 4 ∧ μ'.1 401 5 = μ.1 401 5 ∧ μ'.1 401 6 = μ.1 401 6 ∧ μ'.1 401 23 = μ.1 401 23) ∧ μ'.1 403 = μ.1 403 ∧ μ'.1 404 = μ.1 404 ∧ μ'.1 405 = μ.1 405 ∧ FrM μ μ'
theorem FrC.rfl' (μ : PM) : FrC μ μ := ⟨fun _ _ => rfl, rfl⟩
theorem FrM.rfl' (μ : PM) : FrM μ μ := fun _ _ => rfl
theorem FrC.tr {a b c : PM} (h : FrC a b) (h2 : FrC b c) : FrC a c := ⟨fun x hx => (h2.1 x hx).trans (h.1 x hx), h2.2.trans h.2⟩
theorem FrM.tr {a b c : PM} (h : FrM a b) (h2 : FrM b c) : FrM a c := fun x hx => (h2 x hx).trans (h x hx)
theorem EC.rfl' (μ : PM) : EC μ μ := ⟨rfl, fun _ _ _ => rfl, fun _ _ _ => rfl, FrC.rfl' μ⟩
theorem EM.rfl' (μ : PM) : EM μ μ := ⟨⟨rfl, rfl, rfl, rfl⟩, rfl, rfl, rfl, FrM.rfl' μ⟩
theorem EC.tr {a b c : PM} (h : EC a b) (h2 : EC b c) : EC a c := ⟨h2.1.trans h.1, fun x h3 h4 => (h2.2.1 x h3 h4).trans (h.2.1 x h3 h4), fun x h3 h4 => (h2.2.2.1 x h3 h4).trans (h.2.2.1 x h3 h4), h.2.2.2.tr h2.2.2.2⟩
theorem EM.tr {a b c : PM} (h : EM a b) (h2 : EM b c) : EM a c := ⟨⟨h2.1.1.trans h.1.1, h2.1.2.1.trans h.1.2.1, h2.1.2.2.1.trans h.1.2.2.1, h2.1.2.2.2.trans h.1.2.2.2⟩, h2.2.1.trans h.2.1, h2.2.2.1.trans h.2.2.1, h2.2.2.2.1.trans h.2.2.2.1, h.2.2.2.2.tr h2.2.2.2.2⟩
theorem EC.wi {μ μ' : PM} {c i : Nat} {v : Int32} (h : EC μ μ') (hc : (1 ≤ c ∧ c ≤ 168) ∨ (337 ≤ c ∧ c ≤ 342) ∨ (372 ≤ c ∧ c ≤ 400)) : EC μ (pm_wi μ' c i v) := by
  refine h.tr ⟨wi_c (by omega), fun x h1 h2 => wi_c (by omega), fun x h1 h2 => wi_c (by omega), fun x h1 => wi_c (by omega), wi_2 _ _ _ _⟩
theorem EC.cp {μ μ' : PM} {a c sp dp n : Nat} (h : EC μ μ') (hc : (1 ≤ c ∧ c ≤ 168) ∨ (337 ≤ c ∧ c ≤ 342) ∨ (372 ≤ c ∧ c ≤ 400)) : EC μ (pm_cp μ' a c sp dp n) := by
  refine h.tr ⟨cp_c (by omega), fun x h1 h2 => cp_c (by omega), fun x h1 h2 => cp_c (by omega), fun x h1 => cp_c (by omega), cp_2 _ _ _ _ _ _⟩
theorem EM.wi {μ μ' : PM} {c i : Nat} {v : Int32} (h : EM μ μ') (hc : c = 402 ∨ 406 ≤ c ∨ (c = 401 ∧ 7 ≤ i ∧ i ≠ 23)) : EM μ (pm_wi μ' c i v) := by
  refine h.tr ⟨⟨?_, ?_, ?_, ?_⟩, wi_c (by omega), wi_c (by omega), wi_c (by omega), fun x hx => wi_c (by omega)⟩ <;> (rw [wi_r, if_neg]; omega)
theorem EM.wl {μ μ' : PM} {c i : Nat} {v : Int64} (h : EM μ μ') : EM μ (pm_wl μ' c i v) := h.tr ⟨⟨rfl, rfl, rfl, rfl⟩, rfl, rfl, rfl, fun _ _ => rfl⟩
theorem VB_eq {μ μ' : PM} {q : Nat} {a a' : Nat → Int32} (h : VB μ q a) (h1 : ∀ k, k < 30 → μ'.1 (q + 15) k = μ.1 (q + 15) k) (h2 : ∀ k, k < 30 → a' (1762 + k) = a (1762 + k)) : VB μ' q a' := fun k hk => by rw [h1 k hk, h2 k hk]; exact h k hk
theorem WR_eq {μ μ' : PM} {o : Nat} {r r' : Nat → Int32} (h : WR μ o r) (h1 : ∀ c, o ≤ c → c ≤ o + 4 → μ'.1 c = μ.1 c) (h2 : ∀ j, j < 54 → r' j = r j) : WR μ' o r' := by
  have hl : ∀ j, j < 24 → (vz_wl j).1 ≤ 3 := by decide
  refine ⟨fun j hj => ?_, fun k hk => ?_⟩
  · have := hl j hj
    rw [h1 _ (by omega) (by omega), h2 j (by omega)]
    exact h.1 j hj
  · rw [h1 _ (by omega) (by omega), h2 _ (by omega)]
    exact h.2 k hk
theorem VS_eq {μ μ' : PM} {q : Nat} {a a' : Nat → Int32} (h : VS μ q a) (h1 : μ'.1 (q + 16) 1 = μ.1 (q + 16) 1) (h2 : ∀ c, q + 18 ≤ c → c ≤ q + 167 → μ'.1 c = μ.1 c) (h3 : a' 4 = a 4) (h4 : ∀ k, 142 ≤ k → k < 1762 → a' k = a k) (hb : (a 4).toInt ≤ 30) : VS μ' q a' := by
  obtain ⟨f, hf, h5, h6⟩ := h
  refine ⟨f, hf, h1.trans h5, fun i hi => ?_⟩
  rw [h3] at hi
  have hi30 : i < 30 := by
    by_cases h0 : 0 ≤ (a 4).toInt
    · have := ti_cl h0; omega
    · have : (a 4).toNatClampNeg = 0 := by rw [← Int32.toNat_toInt]; omega
      omega
  exact WR_eq (h6 i hi) (fun c hc1 hc2 => h2 c (by omega) (by have := Nat.mod_lt (f + i) (show 0 < 30 by decide); omega)) (fun j hj => h4 _ (by omega) (by omega))
theorem RT_eq {μc μm μc' μm' : PM} (h : RT μc μm) (h0 : μc'.1 0 = μc.1 0) (h1 : μc'.1 371 = μc.1 371) (h2 : μm'.1 401 4 = μm.1 401 4 ∧ μm'.1 401 5 = μm.1 401 5 ∧ μm'.1 401 6 = μm.1 401 6) (h3 : μm'.1 405 = μm.1 405) : RT μc' μm' := by
  unfold RT at h ⊢
  rw [h0, h1, h2.1, h2.2.1, h2.2.2, h3]
  exact h
theorem TXR_eq {μc μm μc' μm' : PM} {t : Nat} (h : TXR μc μm t) (h1 : ∀ c, 343 ≤ c → c ≤ 370 → μc'.1 c = μc.1 c) (h2 : μm'.1 404 = μm.1 404) (ht : t < 4) : TXR μc' μm' t := by
  unfold TXR LAWR at h ⊢
  rw [h1 (343 + 7 * t) (by omega) (by omega), h1 (344 + 7 * t) (by omega) (by omega), h1 (345 + 7 * t) (by omega) (by omega), h1 (346 + 7 * t) (by omega) (by omega), h1 (347 + 7 * t) (by omega) (by omega), h1 (348 + 7 * t) (by omega) (by omega), h1 (349 + 7 * t) (by omega) (by omega), h2]
  exact h
theorem VV_eq {μ μ' : PM} {q : Nat} {a : Nat → Int32} (h : VV μ q a) (h1 : ∀ c, q ≤ c → c ≤ q + 167 → μ'.1 c = μ.1 c) : VV μ' q a := by
  refine ⟨VF_eq h.1 (fun k hk => ?_), VB_eq h.2.1 (fun k hk => ?_) (fun _ _ => rfl), VS_eq h.2.2.1 ?_ (fun c h2 h3 => h1 c (by omega) h3) rfl (fun _ _ _ => rfl) (ob_count h.2.2.2.1).2, h.2.2.2⟩
  · have := (vz_loc_le k hk).1
    rw [h1 _ (by omega) (by omega)]
  · rw [h1 _ (by omega) (by omega)]
  · rw [h1 _ (by omega) (by omega)]
/-- a call that touches the first Valley and the reference's row alone keeps the relation, if they still fit -/
theorem RR_of {μc μm μc' μm' : PM} (h : RR μc μm) (hc : EC μc μc') (hm : EM μm μm') (hv : VV μc' 1 (μm'.1 402)) (h2 : μm'.1 402 2 = μm.1 402 2) : RR μc' μm' ∧ FrC μc μc' ∧ FrM μm μm' := by
  obtain ⟨k1, k2, k3, k4, k5, k6⟩ := h
  refine ⟨⟨hv, ?_, ?_, RT_eq k4 hc.1 (hc.2.2.1 371 (by omega) (by omega)) ⟨hm.1.1, hm.1.2.1, hm.1.2.2.1⟩ hm.2.2.2.1, hm.1.2.2.2.trans k5, fun t ht h4 => ?_⟩, hc.2.2.2, hm.2.2.2.2⟩
  · rw [hm.2.1]
    exact VV_eq k2 (fun c h3 h4 => hc.2.1 c h3 (by omega))
  · rw [hm.2.1, h2]
    exact k3
  · rw [h2] at ht
    exact TXR_eq (k6 t ht h4) (fun c h5 h6 => hc.2.2.1 c h5 (by omega)) hm.2.2.1 h4
theorem RR_m {μc μm μm' : PM} (h : RR μc μm) (hm : FrC μm μm') : RR μc μm' := by
  unfold RR RT TXR LAWR at h ⊢
  rw [hm.1 401 (by omega), hm.1 402 (by omega), hm.1 403 (by omega), hm.1 404 (by omega), hm.1 405 (by omega)]
  exact h
theorem RR_c {μc μm μc' : PM} (h : RR μc μm) (hc : FrM μc μc') : RR μc' μm := by
  obtain ⟨k1, k2, k3, k4, k5, k6⟩ := h
  exact ⟨VV_eq k1 (fun c _ _ => hc c (by omega)), VV_eq k2 (fun c _ _ => hc c (by omega)), k3, RT_eq k4 (hc 0 (by omega)) (hc 371 (by omega)) ⟨rfl, rfl, rfl⟩ rfl, k5, fun t ht h4 => TXR_eq (k6 t ht h4) (fun c _ _ => hc c (by omega)) rfl h4⟩
/-- a call of both keeps what is between them: the class's first, then the reference's -/
theorem RR_step {α : Type} {F : PM → Option (α × PM)} {G : PM → Option (α × PM)} (h : ∀ μc μm, RR μc μm → ∃ r μc' μm', F μc = some (r, μc') ∧ G μm = some (r, μm') ∧ RR μc' μm' ∧ FrC μc μc' ∧ FrM μm μm') {μ : PM} (hr : RR μ μ) : ∃ r μ1 μ2, F μ = some (r, μ1) ∧ G μ1 = some (r, μ2) ∧ RR μ2 μ2 := by
  obtain ⟨r, μ1, -, h1, -, -, h4, -⟩ := h μ μ hr
  obtain ⟨r', μ1', μ2, k1, k2, k3, k4, k5⟩ := h μ μ1 (RR_m hr h4)
  rw [h1] at k1
  cases k1
  exact ⟨r, μ1, μ2, h1, k2, RR_c k3 k5⟩
/-- a call in both -/
def BOTH {α : Type} (F G : PM → Option (α × PM)) : Prop := ∀ μc μm, RR μc μm → ∃ r μc' μm', F μc = some (r, μc') ∧ G μm = some (r, μm') ∧ RR μc' μm' ∧ FrC μc μc' ∧ FrM μm μm'
theorem BOTH_0 {α : Type} {F G : PM → Option (α × PM)} {μc μm : PM} (h : RR μc μm) {r : α} (h1 : F μc = some (r, μc)) (h2 : G μm = some (r, μm)) : ∃ r μc' μm', F μc = some (r, μc') ∧ G μm = some (r, μm') ∧ RR μc' μm' ∧ FrC μc μc' ∧ FrM μm μm' := ⟨r, μc, μm, h1, h2, h, FrC.rfl' _, FrM.rfl' _⟩
/-! what a row keeps, if one of its places is written -/
theorem vz_cur_upd {a : Nat → Int32} {k : Nat} {v : Int32} (h : ∀ j, j < 54 → (if j < 2 then j else if j < 24 then 5 + j else 1738 + j) ≠ k) : ∀ j, j < 54 → vz_cur (upd a k v) j = vz_cur a j := by
  intro j hj
  have := h j hj
  unfold vz_cur
  by_cases h1 : j < 2
  · rw [if_pos h1, if_pos h1]
    rw [if_pos h1] at this
    exact upd_n this
  · rw [if_neg h1, if_neg h1]
    rw [if_neg h1] at this
    by_cases h2 : j < 24
    · rw [if_pos h2, if_pos h2]
      rw [if_pos h2] at this
      exact upd_n this
    · rw [if_neg h2, if_neg h2]
      rw [if_neg h2] at this
      exact upd_n this
theorem WO_eq {r r' : Nat → Int32} (h : WO r) (he : ∀ j, j < 24 → r' j = r j) : WO r' := by
  refine ⟨fun j hj => ?_, fun n hn => ?_, fun n hn hn6 => ?_⟩
  · rw [he j hj]; exact h.1 j hj
  · rw [he _ (by omega)]; exact h.2.1 n hn
  · rw [he _ (by omega)]
    rw [he 0 (by omega)] at hn
    exact h.2.2 n hn hn6
/-- a place of the row that none of the dependent bounds looks at -/
theorem OA_freeH {a : Nat → Int32} {k : Nat} {v : Int32} (h : OA a) (hk : k = 5 ∨ k = 29 ∨ (42 ≤ k ∧ k < 112) ∨ (117 ≤ k ∧ k ≤ 125) ∨ (k < 142 ∧ 127 ≤ k ∧ k % 2 = 1)) (hh : ∀ i, i < 8 → 117 + i = k → v = 0 ∨ vz_sd v) (hv : vz_lo k ≤ v.toInt ∧ v.toInt ≤ vz_hi k) : OA (upd a k v) := by
  obtain ⟨h1, h2, h3, h4, h5, h6, h7, h8⟩ := h
  have u : ∀ j, j ≠ k → upd a k v j = a j := fun j hj => upd_n hj
  refine ⟨OB_set h1 hv, WO_eq h2 (fun j hj => vz_cur_upd (fun j hj => ?_) j (by omega)), fun n hn => ?_, ?_, fun f hf => ?_, fun i hi => ?_, fun i hi => ?_, fun i hi => ?_⟩
  · split
    · omega
    · split <;> omega
  · rw [u 0 (by omega)] at hn
    have := ob_names h1
    rw [u _ (by omega)]
    exact h3 n hn
  · rw [u 3 (by omega), u 2 (by omega)]
    exact h4
  · rw [u _ (by omega), u 0 (by omega), u 1 (by omega)]
    refine ⟨(h5 f hf).1, (h5 f hf).2.1, fun g hg => ?_⟩
    rw [u _ (by omega)]
    exact (h5 f hf).2.2 g hg
  · rw [u 6 (by omega)] at hi
    have := ob_saidCount h1
    rw [u _ (by omega), u 0 (by omega)]
    exact h6 i hi
  · rw [u 4 (by omega)] at hi
    have := ob_count h1
    rw [u (142 + 54 * i) (by omega), u (142 + 54 * i + 1) (by omega), u 0 (by omega), u 1 (by omega)]
    exact ⟨WO_eq (h7 i hi).1 (fun j hj => u _ (by omega)), (h7 i hi).2⟩
  · by_cases e : 117 + i = k
    · rw [e, upd_e]
      exact hh i hi e
    · rw [u (117 + i) e]
      exact h8 i hi
theorem OA_free {a : Nat → Int32} {k : Nat} {v : Int32} (h : OA a) (hk : k = 5 ∨ k = 29 ∨ (42 ≤ k ∧ k < 112) ∨ k = 125 ∨ (k < 142 ∧ 127 ≤ k ∧ k % 2 = 1)) (hv : vz_lo k ≤ v.toInt ∧ v.toInt ≤ vz_hi k) : OA (upd a k v) :=
  OA_freeH h (by omega) (fun i hi e => by omega) hv
theorem VV_w {μ : PM} {a : Nat → Int32} {k c i : Nat} {v : Int32} (h : VV μ 1 a) (hk : k < 142) (hk4 : k ≠ 4) (hc : 1 + (vz_loc k).1 = c) (hi : (vz_loc k).2 = i) (ho : OA (upd a k v)) : VV (pm_wi μ c i v) 1 (upd a k v) := by
  subst hc hi
  have hl := vz_loc_le k hk
  refine ⟨VF_set h.1 hk v, VB_eq h.2.1 (fun j hj => ?_) (fun j hj => upd_n (by omega)), VS_eq h.2.2.1 ?_ (fun c h1 h2 => wi_c (by omega)) (upd_n (Ne.symm hk4)) (fun j h1 h2 => upd_n (by omega)) (ob_count h.2.2.2.1).2, ho⟩
  · rw [wi_c (by omega)]
  · rw [wi_r, if_neg]
    rintro ⟨e1, e2⟩
    have := hl.2.2.1 (by omega)
    omega
/-! the first calls -/
theorem c_eddy (b s : Int32) : BOTH (fun μ => some (fX11_eddy μ b s)) (fun μ => some (fX12_eddy μ b s)) := by
  intro μc μm h
  have hV := h.1
  dsimp only
  unfold fX11_eddy fX12_eddy
  rw [q_cellC, q_cellM, q_ite, q_ite]
  by_cases hb : 0 ≤ b.toInt ∧ b.toInt ≤ 9
  · simp only [if_pos hb, go_let]
    rw [v1_eddies hV.1]
    by_cases hs : s = 0
    · simp only [if_pos hs]
      refine ⟨1, _, _, rfl, rfl, RR_of h (EC.wi (EC.rfl' _) (by omega)) (EM.wi (EM.rfl' _) (by omega)) ?_ ?_⟩
      · rw [wi_u]
        exact VV_w hV (k := 29) (by omega) (by omega) rfl rfl (OA_free hV.2.2.2 (by omega) (nb_cells (ob_eddies hV.2.2.2.1) hb).2.1)
      · rw [wi_r, if_neg (by omega)]
    · simp only [if_neg hs]
      refine ⟨1, _, _, rfl, rfl, RR_of h (EC.wi (EC.rfl' _) (by omega)) (EM.wi (EM.rfl' _) (by omega)) ?_ ?_⟩
      · rw [wi_u]
        exact VV_w hV (k := 29) (by omega) (by omega) rfl rfl (OA_free hV.2.2.2 (by omega) (nb_cells (ob_eddies hV.2.2.2.1) hb).1)
      · rw [wi_r, if_neg (by omega)]
  · simp only [if_neg hb]
    exact ⟨0, μc, μm, rfl, rfl, h, FrC.rfl' _, FrM.rfl' _⟩
theorem c_quota (b : Int32) : BOTH (fun μ => some (fX11_quota μ b)) (fun μ => some (fX12_quota μ b)) := by
  intro μc μm h
  have hV := h.1
  dsimp only
  unfold fX11_quota fX12_quota
  rw [q_isIn, q_ite]
  simp only [i_lt, i_le, show (1 : Int32).toInt = 1 from rfl, show (99 : Int32).toInt = 99 from rfl]
  by_cases hb : 1 ≤ b.toInt ∧ b.toInt ≤ 99
  · rw [if_neg (by omega), if_pos (by omega), if_pos hb]
    refine ⟨1, _, _, rfl, rfl, RR_of h (EC.wi (EC.rfl' _) (by omega)) (EM.wi (EM.rfl' _) (by omega)) ?_ ?_⟩
    · rw [wi_u]
      exact VV_w hV (k := 125) (by omega) (by omega) rfl rfl (OA_free hV.2.2.2 (by omega) hb)
    · rw [wi_r, if_neg (by omega)]
  · rw [if_neg (c := 1 ≤ b.toInt ∧ b.toInt ≤ 99) hb]
    refine ⟨0, μc, μm, ?_, rfl, h, FrC.rfl' _, FrM.rfl' _⟩
    split
    · rfl
    · rw [if_neg (by omega)]
theorem c_end (b : Int32) : BOTH (fun μ => some (fX11_end μ b)) (fun μ => some (fX12_end μ b)) := by
  intro μc μm h
  obtain ⟨k1, k2, k3, k4, k5, k6⟩ := id h
  obtain ⟨t1, t2, t3, t4, t5⟩ := id k4
  dsimp only
  unfold fX11_end fX12_end
  rw [q_isIn, q_ite]
  simp only [i_lt, i_le, show (0 : Int32).toInt = 0 from rfl]
  rw [t1]
  by_cases hb : 0 ≤ b.toInt ∧ b.toInt ≤ (μm.1 401 4).toInt
  · rw [if_neg (by omega), if_pos (by omega), if_pos hb]
    refine ⟨b, pm_wi μc 0 13 b, pm_wi μm 401 4 b, rfl, rfl, ⟨?_, ?_, k3, ⟨?_, ?_, ?_, ?_, ?_⟩, ?_, fun t ht h4 => ?_⟩, ⟨fun c hc => wi_c (by omega), rfl⟩, fun c hc => wi_c (by omega)⟩
    · exact VV_eq k1 (fun c _ _ => wi_c (by omega))
    · exact VV_eq k2 (fun c _ _ => wi_c (by omega))
    · rw [wi_e, wi_e]
    · rw [wi_e]; omega
    · exact t3
    · exact t4
    · rw [wi_i (by omega), wi_i (by omega), wi_i (by omega), wi_i (by omega), wi_i (by omega)]
      exact t5
    · rw [wi_i (by omega)]; exact k5
    · exact TXR_eq (k6 t ht h4) (fun c _ _ => wi_c (by omega)) rfl h4
  · rw [if_neg (c := 0 ≤ b.toInt ∧ b.toInt ≤ (μm.1 401 4).toInt) hb]
    refine ⟨-1, μc, μm, ?_, rfl, h, FrC.rfl' _, FrM.rfl' _⟩
    split
    · rfl
    · rw [if_neg (by omega)]
theorem c_fault (b : Int32) {μc μm : PM} (h : RR μc μm) : fX11_fault μc b = fX12_fault μm b := by
  obtain ⟨t1, t2, t3, t4, t5⟩ := h.2.2.2.1
  unfold fX11_fault fX12_fault
  rcases t5 with ⟨e1, e2, e3⟩ | ⟨e1, e2, e3⟩
  · rw [e1, e2, e3, if_pos rfl]
    repeat' split
    all_goals rfl
  · rw [e1, e2, e3, if_neg (by decide)]
