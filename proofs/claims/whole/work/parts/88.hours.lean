/-! ===== an HOUR passes in both ===== -/
def HC (o : Nat) (μ μ' : PM) : Prop := (∀ c, c < o ∨ o + 4 < c → c ≠ 384 → c ≠ 385 → μ'.1 c = μ.1 c) ∧ μ'.2 = μ.2
def HM (z : Nat) (bk : Bool) (μ μ' : PM) : Prop := (∀ c, c ≠ 401 → c ≠ 402 → c ≠ 407 → c ≠ 409 → μ'.1 c = μ.1 c) ∧ (∀ i, i ≠ 24 → μ'.1 401 i = μ.1 401 i) ∧ ∀ k, k < z ∨ (29 ≤ k ∧ (bk = true → k < 1762)) → μ'.1 402 k = μ.1 402 k
def CL (r : Int32) (μ μ' : PM) : Prop := (r = 0 ∧ μ'.1 401 24 = μ.1 401 24) ∨ (r = 1 ∧ μ'.1 401 24 = μ.1 401 24 + 1)
theorem HC.rfl' (o : Nat) (μ : PM) : HC o μ μ := ⟨fun _ _ _ _ => rfl, rfl⟩
theorem HC.tr {o : Nat} {a b c : PM} (h : HC o a b) (h2 : HC o b c) : HC o a c := ⟨fun x k1 k2 k3 => (h2.1 x k1 k2 k3).trans (h.1 x k1 k2 k3), h2.2.trans h.2⟩
theorem HM.rfl' (z : Nat) (bk : Bool) (μ : PM) : HM z bk μ μ := ⟨fun _ _ _ _ _ => rfl, fun _ _ => rfl, fun _ _ => rfl⟩
theorem HM.tr {z : Nat} {bk : Bool} {a b c : PM} (h : HM z bk a b) (h2 : HM z bk b c) : HM z bk a c := ⟨fun x k1 k2 k3 k4 => (h2.1 x k1 k2 k3 k4).trans (h.1 x k1 k2 k3 k4), fun i hi => (h2.2.1 i hi).trans (h.2.1 i hi), fun k hk => (h2.2.2 k hk).trans (h.2.2 k hk)⟩
theorem HM.lo {z z' : Nat} {bk : Bool} {a b : PM} (h : HM z bk a b) (hz : z' ≤ z) : HM z' bk a b := ⟨h.1, h.2.1, fun k hk => h.2.2 k (hk.elim (fun q => Or.inl (by omega)) Or.inr)⟩
theorem LC.hc {a b : PM} (h : LC a b) (o : Nat) : HC o a b := ⟨fun c _ h1 h2 => h.1 c h1 h2, h.2⟩
theorem LM.hm {a b : PM} (h : LM a b) (z : Nat) (bk : Bool) : HM z bk a b := ⟨fun c _ _ h1 h2 => h c h1 h2, fun i _ => by rw [h 401 (by omega) (by omega)], fun k _ => by rw [h 402 (by omega) (by omega)]⟩
theorem HC.wi {o c i : Nat} {v : Int32} (μ : PM) (hc : c ≤ 4) : HC o μ (pm_wi μ (o + c) i v) := ⟨fun x hx _ _ => wi_c (by omega), rfl⟩
theorem HM.wi {z k : Nat} {bk : Bool} {v : Int32} (μ : PM) (hk : z ≤ k ∧ k < 29) : HM z bk μ (pm_wi μ 402 k v) := ⟨fun x _ h1 _ _ => wi_c h1, fun i _ => by rw [wi_c (by omega)], fun k' hk' => wi_i (by omega)⟩
theorem CL_id {μ : PM} : CL 0 μ μ := Or.inl ⟨rfl, rfl⟩
theorem q_x {x : Int32} (hx : 0 ≤ x.toInt ∧ x.toInt ≤ 30772) : ∃ m : Nat, m < 30773 ∧ jrem (x * 563 + 433) 30773 = nI m ∧ (jreml (x.toInt64 * 563 + 433) 30773).toInt32 = nI m := by
  obtain ⟨n, rfl, hn, hn2⟩ := nz_of (v := x) (k := 30773) hx.1 (by omega)
  have hm : (n * 563 + 433) % 30773 < 30773 := Nat.mod_lt _ (by decide)
  refine ⟨(n * 563 + 433) % 30773, hm, ?_, ?_⟩
  · rw [mul_l 563, add_l 433, rem_l (n := 30773) (by omega) (by omega)]
  · have e1 : (563 : Int64).toInt = 563 := by decide
    have e2 : (433 : Int64).toInt = 433 := by decide
    have e3 : (30773 : Int64).toInt = 30773 := by decide
    have hs : ((nI n).toInt64 * 563 + 433).toInt = ((n * 563 + 433 : Nat) : Int) := by
      have hm2 : ((nI n).toInt64 * 563).toInt = (n : Int) * 563 := by rw [tl_mul (by rw [il, e1]; omega) (by rw [il, e1]; omega), il, e1, hn2]
      rw [tl_add (by rw [hm2, e2]; omega) (by rw [hm2, e2]; omega), hm2, e2]
      omega
    have hr : (jreml ((nI n).toInt64 * 563 + 433) 30773).toInt = (((n * 563 + 433) % 30773 : Nat) : Int) := by
      rw [tl_rem (by omega), hs, e3]
      rfl
    refine i_eq.mpr ?_
    rw [li (by omega) (by omega), hr, ti_n (by omega)]
section HRs
variable {bk xk : Bool} {o : Nat} {μc μm : PM}
theorem vb_8 : vz_lo 8 = 0 ∧ vz_hi 8 = 30772 := by decide
theorem vb_9 : vz_lo 9 = 0 ∧ vz_hi 9 = 9 := by decide
theorem vb_7 : vz_lo 7 = 0 ∧ vz_hi 7 = 9999 := by decide
theorem vb_11 : vz_lo 11 = 0 ∧ vz_hi 11 = 30 := by decide
theorem OA_x {a : Nat → Int32} (h : OA a) {m : Nat} (hm : m < 30773) : OA (upd a 8 (nI m)) := OA_w h (by omega) (by rw [vb_8.1, vb_8.2, ti_n (by omega)]; omega) (fun n hn q => by omega) (fun n hn q => by omega)
/-- both draw -/
theorem ph_renew (h : PH bk true o μc μm) (ho : PO o) : PH bk true o (fX10_renewX μc o) (fX12_anew μm) ∧ HC o μc (fX10_renewX μc o) ∧ HM 8 bk μm (fX12_anew μm) ∧ (fX12_anew μm).1 401 = μm.1 401 ∧ (∀ k, k ≠ 8 → (fX12_anew μm).1 402 k = μm.1 402 k) := by
  obtain ⟨m, h1, h2, h3⟩ := q_x (ob_x (ph_ob h))
  unfold fX10_renewX fX12_anew
  simp only [go_let]
  rw [ph_x h, h2, h3]
  refine ⟨PH_xm (PH_xc h ho (nI m)) wi_e (OA_x h.2.2.2.2.1 h1), HC.wi (c := 0) μc (by omega), HM.wi μm (by omega), wi_c (by omega), fun k hk => wi_i hk⟩
theorem ph_draw10 (h : PH bk true o μc μm) (ho : PO o) : ∃ d, d < 10 ∧ fX10_drawTenth μc o = (nI d, fX10_renewX μc o) ∧ fX12_drawnBy μm 10 = some (nI d, fX12_anew μm) := by
  obtain ⟨n, e, hn, -⟩ := nz_of (v := μm.1 402 8) (k := 30773) (ob_x (ph_ob h)).1 (by have := (ob_x (ph_ob h)).2; omega)
  refine ⟨n % 10, Nat.mod_lt _ (by decide), ?_, ?_⟩
  · unfold fX10_drawTenth
    simp only [go_let]
    rw [ph_x h, e, rem_l (n := 10) (by omega) (by omega)]
  · unfold fX12_drawnBy
    simp only [go_let]
    rw [e, rem_l (n := 10) (by omega) (by omega)]
    rfl
theorem ph_draw2 (h : PH bk true o μc μm) (ho : PO o) : ∃ d, d < 2 ∧ fX10_drawSide μc o = (nI d, fX10_renewX μc o) ∧ fX12_drawnBy μm 2 = some (nI d, fX12_anew μm) := by
  obtain ⟨n, e, hn, -⟩ := nz_of (v := μm.1 402 8) (k := 30773) (ob_x (ph_ob h)).1 (by have := (ob_x (ph_ob h)).2; omega)
  refine ⟨n % 2, Nat.mod_lt _ (by decide), ?_, ?_⟩
  · unfold fX10_drawSide
    simp only [go_let]
    rw [ph_x h, e, rem_l (n := 2) (by omega) (by omega)]
  · unfold fX12_drawnBy
    simp only [go_let]
    rw [e, rem_l (n := 2) (by omega) (by omega)]
    rfl
/-- the book, where the reference writes none -/
theorem PH_bc {μc' : PM} (h : PH false xk o μc μm) (ho : PO o) (h1 : ∀ c i, c ≠ o + 4 → ¬ (c = o ∧ i = 4) → μc'.1 c i = μc.1 c i) (h2 : 0 ≤ (μc'.1 o 4).toInt ∧ (μc'.1 o 4).toInt ≤ 30) : PH false xk o μc' μm := by
  obtain ⟨g1, g2, g3, g4, g5, g6, g7⟩ := h
  refine ⟨fun j hj hj6 hx => ?_, h2, fun q => absurd q (by decide), fun k hk hk2 => ?_, g5, g6, fun t ht h4 => TXR_eq (g7 t ht h4) (fun c _ _ => funext fun i => h1 c i ?_ ?_) rfl h4⟩
  · have := (vw_le j hj).1
    rw [h1 _ _ (by omega) (fun q => hj6 (vw_inj j hj 6 (by decide) (Prod.ext (by show (vz_wl j).1 = 0; omega) (by rw [q.2]; decide))))]
    exact g1 j hj hj6 hx
  · have := vs_le k hk hk2
    rw [h1 _ _ (by rcases ho with rfl | rfl <;> omega) (by rcases ho with rfl | rfl <;> omega)]
    exact g4 k hk hk2
  · rcases ho with rfl | rfl <;> omega
  · rcases ho with rfl | rfl <;> omega
/-- the book, where both write -/
theorem PH_bk {μc' μm' : PM} (h : PH true xk o μc μm) (ho : PO o) (h1 : ∀ c i, c ≠ o + 4 → ¬ (c = o ∧ i = 4) → μc'.1 c i = μc.1 c i) (h2 : ∀ c, c ≠ 402 → μm'.1 c = μm.1 c) (h3 : ∀ k, k ≠ 11 → k < 1762 → μm'.1 402 k = μm.1 402 k) (h4 : μc'.1 o 4 = μm'.1 402 11) (h5 : 0 ≤ (μm'.1 402 11).toInt ∧ (μm'.1 402 11).toInt ≤ 30)
    (h6 : ∀ k, k < 30 → BKr (μc'.1 (o + 4) k) (μm'.1 402 (1762 + k))) : PH true xk o μc' μm' := by
  obtain ⟨g1, g2, g3, g4, g5, g6, g7⟩ := h
  obtain ⟨v11, ev⟩ : ∃ v, μm'.1 402 11 = v := ⟨_, rfl⟩
  rw [ev] at h4 h5
  have hrow : ∀ k, k < 1762 → μm'.1 402 k = upd (μm.1 402) 11 v11 k := fun k hk => by
    by_cases e : k = 11
    · rw [e, upd_e, ev]
    · rw [upd_n e, h3 k e hk]
  have ho2 := OA_w g5 (k := 11) (v := v11) (by omega) (by rw [vb_11.1, vb_11.2]; exact h5) (fun n hn q => by omega) (fun n hn q => by omega)
  have hOA : OA (μm'.1 402) := by
    obtain ⟨b1, b2, b3, b4, b5, b6, b7, b8⟩ := ho2
    have bn := ob_names b1
    have bs := ob_saidCount b1
    have bc := ob_count b1
    refine ⟨fun k hk => by rw [hrow k (by omega)]; exact b1 k hk, WO_eq b2 (fun j hj => by rw [vz_cur_lo hj, vz_cur_lo hj]; exact hrow _ (by split <;> omega)), fun n hn => ?_, ?_, fun f hf => ?_, fun i hi => ?_, fun i hi => ?_, fun i hi => ?_⟩
    · rw [hrow 0 (by omega)] at hn
      rw [hrow _ (by omega)]
      exact b3 n hn
    · rw [hrow 3 (by omega), hrow 2 (by omega)]
      exact b4
    · rw [hrow _ (by omega), hrow 0 (by omega), hrow 1 (by omega)]
      refine ⟨(b5 f hf).1, (b5 f hf).2.1, fun g hg => ?_⟩
      rw [hrow _ (by omega)]
      exact (b5 f hf).2.2 g hg
    · rw [hrow 6 (by omega)] at hi
      rw [hrow _ (by omega), hrow 0 (by omega)]
      exact b6 i hi
    · rw [hrow 4 (by omega)] at hi
      rw [hrow (142 + 54 * i) (by omega), hrow (142 + 54 * i + 1) (by omega), hrow 0 (by omega), hrow 1 (by omega)]
      exact ⟨WO_eq (b7 i hi).1 (fun j hj => hrow _ (by omega)), (b7 i hi).2⟩
    · rw [hrow (117 + i) (by omega)]
      exact b8 i hi
  refine ⟨fun j hj hj6 hx => ?_, by rw [h4]; exact h5, fun _ => ⟨h4.trans ev.symm, h6⟩, fun k hk hk2 => ?_, hOA, by rw [h2 401 (by omega)]; exact g6, fun t ht t4 => TXR_eq (g7 t (by rw [← h3 2 (by omega) (by omega)]; exact ht) t4) (fun c _ _ => funext fun i => h1 c i ?_ ?_) (h2 404 (by omega)) t4⟩
  · have := (vw_le j hj).1
    rw [h1 _ _ (by omega) (fun q => hj6 (vw_inj j hj 6 (by decide) (Prod.ext (by show (vz_wl j).1 = 0; omega) (by rw [q.2]; decide)))), vz_cur_lo hj, h3 _ (by split <;> omega) (by split <;> omega), ← vz_cur_lo (a := μm.1 402) hj]
    exact g1 j hj hj6 hx
  · have := vs_le k hk hk2
    rw [h1 _ _ (by rcases ho with rfl | rfl <;> omega) (by rcases ho with rfl | rfl <;> omega), h3 k (by omega) (by omega)]
    exact g4 k hk hk2
  · rcases ho with rfl | rfl <;> omega
  · rcases ho with rfl | rfl <;> omega
end HRs
/-- a line is written -/
theorem wl_C {μ : PM} {o W h n w p : Nat} (hW : μ.1 o 4 = nI W) (hW30 : W ≤ 30) (hh : μ.1 o 9 = nI h) : ∃ μ' W', W' < 30 ∧ fX10_writeLine μ o (nI n) (nI w) (nI p) = some μ' ∧ μ'.1 o 4 = nI (W' + 1) ∧ (∀ c i, c ≠ o + 4 → ¬ (c = o ∧ i = 4) → μ'.1 c i = μ.1 c i) ∧ μ'.2 = μ.2 ∧ μ'.1 (o + 4) W' = nI (h * 1000 + n * 100 + w * 10 + p) ∧
    ((W < 30 ∧ W' = W ∧ ∀ k, k ≠ W → μ'.1 (o + 4) k = μ.1 (o + 4) k) ∨ (W = 30 ∧ W' = 29 ∧ ∀ k, k < 29 → μ'.1 (o + 4) k = μ.1 (o + 4) (k + 1))) := by
  have ev : nI h * 1000 + nI n * 100 + nI w * 10 + nI p = nI (h * 1000 + n * 100 + w * 10 + p) := by rw [mul_l 1000, mul_l 100, mul_l 10, nI_add, nI_add, nI_add]
  have key : ∀ (ν : PM) (V : Nat), V < 30 → ν.1 o 4 = nI V → ν.1 o 9 = nI h → jjX10_writeLine_30 ν o (nI n) (nI w) (nI p) = some (pm_wi (pm_wi ν (o + 4) V (nI (h * 1000 + n * 100 + w * 10 + p))) o 4 (nI (V + 1))) := fun ν V hV h4 h9 => by
    unfold jjX10_writeLine_30
    simp only [go_let]
    rw [h4, if_neg (nI_nlt0 (by omega)), chk_n hV (by omega), cl_n (by omega), h9, ev, wi_c (by omega), h4, add_l 1]
  unfold fX10_writeLine
  simp only [go_let]
  by_cases hlt : W < 30
  · rw [hW, if_pos (by rw [lt_l (n := 30) (by omega) (by omega)]; exact hlt), key μ W hlt hW hh]
    refine ⟨_, W, hlt, rfl, wi_e, fun c i h1 h2 => ?_, rfl, ?_, Or.inl ⟨hlt, rfl, fun k hk => ?_⟩⟩
    · rw [wi_r, if_neg h2, wi_c h1]
    · rw [wi_c (by omega), wi_e]
    · rw [wi_c (by omega), wi_i hk]
  · have h30 : W = 30 := by omega
    rw [hW, if_neg (by rw [lt_l (n := 30) (by omega) (by omega)]; exact hlt)]
    have e29 : (29 : Int32) = nI 29 := rfl
    rw [e29, key (pm_wi (pm_cp μ (o + 4) (o + 4) 1 0 29) o 4 (nI 29)) 29 (by omega) wi_e (by rw [wi_i (by omega), cp_c (by omega)]; exact hh)]
    refine ⟨_, 29, by omega, rfl, wi_e, fun c i h1 h2 => ?_, rfl, ?_, Or.inr ⟨h30, rfl, fun k hk => ?_⟩⟩
    · rw [wi_r, if_neg h2, wi_c h1, wi_r, if_neg h2, cp_c h1]
    · rw [wi_c (by omega), wi_e]
    · rw [wi_c (by omega), wi_i (by omega), wi_c (by omega), cp_in (by omega) (by omega), show 1 + (k - 0) = k + 1 by omega]
theorem wl_M {μ : PM} {W h n w p : Nat} (h1 : μ.1 401 23 = 1) (hW : μ.1 402 11 = nI W) (hW30 : W ≤ 30) (hh : μ.1 402 7 = nI h) : ∃ μ' W', W' < 30 ∧ fX12_write μ (nI n) (nI w) (nI p) = some μ' ∧ μ'.1 402 11 = nI (W' + 1) ∧ (∀ c, c ≠ 402 → μ'.1 c = μ.1 c) ∧ (∀ k, k ≠ 11 → k < 1762 → μ'.1 402 k = μ.1 402 k) ∧ μ'.1 402 (1762 + W') = nI (((h * 6 + n) * 3 + w) * 10 + p) ∧
    ((W < 30 ∧ W' = W ∧ ∀ k, k ≠ W → μ'.1 402 (1762 + k) = μ.1 402 (1762 + k)) ∨ (W = 30 ∧ W' = 29 ∧ ∀ k, k < 29 → μ'.1 402 (1762 + k) = μ.1 402 (1762 + (k + 1)))) := by
  have ev : ((nI h * 6 + nI n) * 3 + nI w) * 10 + nI p = nI (((h * 6 + n) * 3 + w) * 10 + p) := by rw [mul_l 6, nI_add, mul_l 3, nI_add, mul_l 10, nI_add]
  have key : ∀ (ν : PM) (V : Nat), V < 30 → ν.1 402 11 = nI V → ν.1 402 7 = nI h → jjX12_write_71 ν (nI n) (nI w) (nI p) = some (pm_wi (pm_wi ν 402 (1762 + V) (nI (((h * 6 + n) * 3 + w) * 10 + p))) 402 11 (nI (V + 1))) := fun ν V hV h4 h9 => by
    unfold jjX12_write_71
    simp only [go_let]
    rw [h4, l_add 1762, chk_n (by omega) (by omega), cl_n (by omega), h9, ev, wi_i (by omega), h4, add_l 1]
  unfold fX12_write
  simp only [go_let]
  rw [h1, if_neg (by decide)]
  by_cases hlt : W < 30
  · rw [hW, if_neg (by rw [eq_l (n := 30) (by omega) (by omega)]; omega), key μ W hlt hW hh]
    refine ⟨_, W, hlt, rfl, wi_e, fun c hc => by rw [wi_c hc, wi_c hc], fun k h1 h2 => ?_, ?_, Or.inl ⟨hlt, rfl, fun k hk => ?_⟩⟩
    · rw [wi_i h1, wi_i (by omega)]
    · rw [wi_i (by omega), wi_e]
    · rw [wi_i (by omega), wi_i (by omega)]
  · have h30 : W = 30 := by omega
    subst h30
    rw [hW, if_pos (show nI 30 = 30 from rfl)]
    have hl := lp_cnt (f := fun s : Int32 × PM => lbX12_write_23 (nI n) (nI w) (nI p) s.1 s.2) (fun i => (nI i, pm_cp μ 402 402 1763 1762 (i - 1))) 1 30 (.inl (pm_cp μ 402 402 1763 1762 29)) (fun i h1 h2 => by
      show lbX12_write_23 (nI n) (nI w) (nI p) (nI i) (pm_cp μ 402 402 1763 1762 (i - 1)) = _
      unfold lbX12_write_23
      simp only [go_let]
      rw [if_neg (by rw [l_le (n := 30) (by omega) (by omega)]; omega), l_add 1762, subm1 (by omega), chk_n (by omega) (by omega), chk_n (by omega) (by omega), cl_n (by omega), cl_n (by omega), add_l 1]
      have := cp_suc (μ := μ) (a := 402) (b := 402) (sp := 1763) (dp := 1762) (n := i - 1) (by omega)
      rw [show 1762 + (i - 1) = 1762 + i - 1 by omega, show 1763 + (i - 1) = 1762 + i by omega, show i - 1 + 1 = i + 1 - 1 by omega] at this
      rw [this]) (by
      show lbX12_write_23 (nI n) (nI w) (nI p) (nI 30) _ = _
      unfold lbX12_write_23
      rw [if_pos (by decide)]) go_fuel 1 (by omega) (by omega) (by unfold go_fuel; omega)
    have hl' : lp (fun s : Int32 × PM => lbX12_write_23 (nI n) (nI w) (nI p) s.1 s.2) go_fuel (1, μ) = some (.inl (pm_cp μ 402 402 1763 1762 29)) := by
      have e : pm_cp μ 402 402 1763 1762 (1 - 1) = μ := cp_0 μ 402 402 1763 1762
      rw [e] at hl
      exact hl
    rw [hl']
    show ∃ μ' W', W' < 30 ∧ jjX12_write_71 (pm_wi (pm_cp μ 402 402 1763 1762 29) 402 11 ((pm_cp μ 402 402 1763 1762 29).1 402 11 - 1)) (nI n) (nI w) (nI p) = some μ' ∧ _
    have e11 : (pm_cp μ 402 402 1763 1762 29).1 402 11 = nI 30 := by rw [cp_out (by omega)]; exact hW
    rw [e11, subm1 (by omega)]
    rw [key _ 29 (by omega) wi_e (by rw [wi_i (by omega), cp_out (by omega)]; exact hh)]
    refine ⟨_, 29, by omega, rfl, wi_e, fun c hc => by rw [wi_c hc, wi_c hc, wi_c hc, cp_c hc], fun k h1 h2 => ?_, ?_, Or.inr ⟨rfl, rfl, fun k hk => ?_⟩⟩
    · rw [wi_i h1, wi_i (by omega), wi_i h1, cp_out (by omega)]
    · rw [wi_i (by omega), wi_e]
    · rw [wi_i (by omega), wi_i (by omega), wi_i (by omega), cp_in (by omega) (by omega), show 1763 + (1762 + k - 1762) = 1762 + (k + 1) by omega]
theorem ph_line {bk xk : Bool} {o n w p : Nat} {μc μm : PM} (h : PH bk xk o μc μm) (ho : PO o) (hn : n < 6) (hw : w < 3) (hp : p < 10) : ∃ μc' μm', fX10_writeLine μc o (nI n) (nI w) (nI p) = some μc' ∧ fX12_write μm (nI n) (nI w) (nI p) = some μm' ∧ PH bk xk o μc' μm' ∧ HC o μc μc' ∧ HM 8 bk μm μm' ∧ (∀ c, c ≠ 402 → μm'.1 c = μm.1 c) ∧ ∀ k, k ≠ 11 → k < 1762 → μm'.1 402 k = μm.1 402 k := by
  obtain ⟨W, eW, hW, -⟩ := nz_of (v := μc.1 o 4) (k := 31) h.2.1.1 (by have := h.2.1.2; omega)
  have hhb := ob_hour (ph_ob h)
  obtain ⟨hr, ehr, hhr, -⟩ := nz_of (v := μm.1 402 7) (k := 10000) hhb.1 (by omega)
  obtain ⟨μ1, W1, c1, c2, c3, c4, c5, c6, c7⟩ := wl_C (n := n) (w := w) (p := p) eW (by omega) (by rw [ph_hour h]; exact ehr)
  have hHC : HC o μc μ1 := ⟨fun c hc _ _ => funext fun i => c4 c i (by omega) (by omega), c5⟩
  cases bk with
  | false =>
    refine ⟨μ1, μm, c2, ?_, PH_bc h ho c4 (by rw [c3, ti_n (by omega)]; omega), hHC, HM.rfl' _ _ _, fun _ _ => rfl, fun _ _ _ => rfl⟩
    unfold fX12_write
    rw [h.2.2.2.2.2.1, if_neg (show ¬ (false = true) by decide), if_pos rfl]
  | true =>
    have hb := h.2.2.1 rfl
    obtain ⟨μ2, W2, m1, m2, m3, m4, m5, m6, m7⟩ := wl_M (n := n) (w := w) (p := p) h.2.2.2.2.2.1 (by rw [← hb.1]; exact eW) (by omega) ehr
    have hWW : W1 = W2 := by omega
    subst hWW
    have hHM : HM 8 true μm μ2 := by
      refine ⟨fun c _ hc _ _ => m4 c hc, fun i _ => by rw [m4 401 (by omega)], fun k hk => ?_⟩
      rcases hk with hk | hk
      · exact m5 k (by omega) (by omega)
      · exact m5 k (by omega) (hk.2 rfl)
    refine ⟨μ1, μ2, c2, m2, PH_bk h ho c4 m4 m5 (by rw [c3, m3]) (by rw [m3, ti_n (by omega)]; omega) (fun k hk => ?_), hHC, hHM, m4, m5⟩
    by_cases e : k = W1
    · subst e
      exact ⟨hr, n, w, p, by omega, hn, hw, hp, c6, m6⟩
    · rcases c7 with ⟨q1, q2, q3⟩ | ⟨q1, q2, q3⟩
      · rcases m7 with ⟨r1, r2, r3⟩ | ⟨r1, r2, r3⟩
        · rw [q3 k (by omega), r3 k (by omega)]
          exact hb.2 k hk
        · omega
      · rcases m7 with ⟨r1, r2, r3⟩ | ⟨r1, r2, r3⟩
        · omega
        · rw [q3 k (by omega), r3 k (by omega)]
          exact hb.2 (k + 1) (by omega)
