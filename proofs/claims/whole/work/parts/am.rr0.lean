/-! ===== the start: both are related ===== -/
def μ00 : PM := (fun c i => (go_I0s.getD c []).getD i 0, fun _ _ => 0)
def μ01 : PM := pm_cp μ00 402 403 0 0 1792
theorem go_RF_0 : go_RF 376 = fun c j => (go_RT.getD c []).getD j none := by
  funext c j
  unfold go_RF
  by_cases h : c = 372 ∧ j = 4
  · rw [if_pos h, h.1, h.2]
    decide +kernel
  · rw [if_neg h]
theorem mem_0 : bm (bX12 BM) = go_mk 376 μ00 := by
  rw [B_all]
  unfold bm go_lm go_mk
  rw [go_RF_0]
  rfl
theorem cop_0 : fX12_copy μ00 402 403 = some μ01 := cy_main (by decide)
def z402 : List Int32 := go_I0s.getD 402 []
theorem z_f1 : ∀ k, k < 142 → (go_I0s.getD (1 + (vz_loc k).1) []).getD (vz_loc k).2 0 = z402.getD k 0 := by decide +kernel
theorem z_f2 : ∀ k, k < 142 → (go_I0s.getD (169 + (vz_loc k).1) []).getD (vz_loc k).2 0 = z402.getD k 0 := by decide +kernel
theorem z_ob : ∀ k, k < 142 → vz_lo k ≤ (z402.getD k 0).toInt ∧ (z402.getD k 0).toInt ≤ vz_hi k := by decide +kernel
theorem z_b1 : ∀ k, k < 30 → (go_I0s.getD 16 []).getD k 0 = 0 ∧ (go_I0s.getD 184 []).getD k 0 = 0 ∧ z402.getD (1762 + k) 0 = 0 := by decide +kernel
theorem z_v : z402.getD 0 0 = 0 ∧ z402.getD 1 0 = 0 ∧ z402.getD 2 0 = 0 ∧ z402.getD 3 0 = -1 ∧ z402.getD 4 0 = 0 ∧ z402.getD 6 0 = 0 ∧ (go_I0s.getD 17 []).getD 1 0 = 0 ∧ (go_I0s.getD 185 []).getD 1 0 = 0 := by decide +kernel
theorem z_g : ∀ f, f < 5 → z402.getD (112 + f) 0 = -1 := by decide +kernel
theorem z_w : (∀ j, j < 24 → vz_lo (if j < 2 then j else 5 + j) ≤ (vz_cur (fun k => z402.getD k 0) j).toInt ∧ (vz_cur (fun k => z402.getD k 0) j).toInt ≤ vz_hi (if j < 2 then j else 5 + j)) ∧ (∀ n, n < 6 → (vz_cur (fun k => z402.getD k 0) (7 + 2 * n)).toInt ≤ 10 ∨ 20 ≤ (vz_cur (fun k => z402.getD k 0) (7 + 2 * n)).toInt) := by decide +kernel
theorem z_hs : ∀ i, i < 8 → z402.getD (117 + i) 0 = 0 := by decide +kernel
theorem z_OA : OA (fun k => z402.getD k 0) := by
  obtain ⟨v0, v1, v2, v3, v4, v6, -, -⟩ := z_v
  refine ⟨z_ob, ⟨z_w.1, z_w.2, fun n hn => ?_⟩, fun n hn => ?_, ?_, fun f hf => ⟨?_, fun _ => z_g f hf, fun g hg _ => Or.inl (z_g f hf)⟩, fun i hi => ?_, fun i hi => ?_, fun i hi => Or.inl (z_hs i hi)⟩
  · have hn : (n : Int) < (z402.getD 0 0).toInt := hn
    rw [v0] at hn
    have : (0 : Int32).toInt = 0 := rfl
    omega
  · have hn : (n : Int) < (z402.getD 0 0).toInt := hn
    rw [v0] at hn
    have : (0 : Int32).toInt = 0 := rfl
    omega
  · show (z402.getD 3 0).toInt < (z402.getD 2 0).toInt
    rw [v3, v2]
    decide
  · show (z402.getD (112 + f) 0).toInt < (z402.getD 0 0).toInt
    rw [z_g f hf, v0]
    decide
  · have hi : (i : Int) < (z402.getD 6 0).toInt := hi
    rw [v6] at hi
    have : (0 : Int32).toInt = 0 := rfl
    omega
  · have hi : (i : Int) < (z402.getD 4 0).toInt := hi
    rw [v4] at hi
    have : (0 : Int32).toInt = 0 := rfl
    omega
theorem z_BK : BKr 0 0 := ⟨0, 0, 0, 0, by omega, by omega, by omega, by omega, rfl, rfl⟩
theorem z_V1 : VV μ00 1 (fun k => z402.getD k 0) := by
  obtain ⟨v0, v1, v2, v3, v4, v6, v7, v8⟩ := z_v
  refine ⟨z_f1, fun k hk => ?_, ⟨0, by omega, v7, fun i hi => ?_⟩, z_OA⟩
  · show BKr ((go_I0s.getD 16 []).getD k 0) (z402.getD (1762 + k) 0)
    rw [(z_b1 k hk).1, (z_b1 k hk).2.2]
    exact z_BK
  · have hi : i < (z402.getD 4 0).toNatClampNeg := hi
    rw [v4] at hi
    exact absurd hi (Nat.not_lt_zero i)
theorem z_V2 : VV μ00 169 (fun k => z402.getD k 0) := by
  obtain ⟨v0, v1, v2, v3, v4, v6, v7, v8⟩ := z_v
  refine ⟨z_f2, fun k hk => ?_, ⟨0, by omega, v8, fun i hi => ?_⟩, z_OA⟩
  · show BKr ((go_I0s.getD 184 []).getD k 0) (z402.getD (1762 + k) 0)
    rw [(z_b1 k hk).2.1, (z_b1 k hk).2.2]
    exact z_BK
  · have hi : i < (z402.getD 4 0).toNatClampNeg := hi
    rw [v4] at hi
    exact absurd hi (Nat.not_lt_zero i)
theorem z_t : (∀ k, k < 300 → (go_I0s.getD 371 []).getD k 0 = 0 ∧ (go_I0s.getD 405 []).getD k 0 = 0) ∧ (go_I0s.getD 0 []).getD 13 0 = 0 ∧ (go_I0s.getD 0 []).getD 14 0 = 0 ∧ (go_I0s.getD 401 []).getD 4 0 = 0 ∧ (go_I0s.getD 401 []).getD 5 0 = -1 ∧ (go_I0s.getD 401 []).getD 6 0 = -1 ∧ (go_I0s.getD 401 []).getD 23 0 = 1 := by decide +kernel
theorem RR_0 : RR μ01 μ01 := by
  obtain ⟨t1, t2, t3, t4, t5, t6, t7⟩ := z_t
  have c : ∀ x, x ≠ 403 → μ01.1 x = μ00.1 x := fun x hx => cp_c hx
  have ea : ∀ k, k < 1792 → μ01.1 403 k = z402.getD k 0 := fun k hk => by
    have : μ01.1 403 k = μ00.1 402 (0 + (k - 0)) := cp_in (Nat.zero_le _) (by omega)
    rw [this, Nat.zero_add, Nat.sub_zero]
    rfl
  refine ⟨?_, ?_, ?_, ⟨?_, ?_, fun k hk => ?_, fun k hk => ?_, Or.inl ⟨?_, ?_, ?_⟩⟩, ?_, fun t ht h4 => ?_⟩
  · rw [c 402 (by decide)]
    exact VV_eq z_V1 (fun x _ _ => c x (by omega))
  · exact VV_a (VV_eq z_V2 (fun x _ _ => c x (by omega))) ea
  · rw [c 402 (by decide), ea 2 (by decide)]
    exact Int.le_refl _
  · rw [c 0 (by decide), c 401 (by decide)]
    exact t2.trans t4.symm
  · rw [c 401 (by decide)]
    show 0 ≤ ((go_I0s.getD 401 []).getD 4 0).toInt ∧ ((go_I0s.getD 401 []).getD 4 0).toInt ≤ 300
    rw [t4]
    decide
  · rw [c 371 (by decide), c 405 (by decide)]
    exact (t1 k hk).1.trans (t1 k hk).2.symm
  · rw [c 405 (by decide)]
    show 0 ≤ ((go_I0s.getD 405 []).getD k 0).toInt ∧ ((go_I0s.getD 405 []).getD k 0).toInt ≤ 255
    rw [(t1 k hk).2]
    decide
  · rw [c 0 (by decide)]
    exact t3
  · rw [c 401 (by decide)]
    exact t5
  · rw [c 401 (by decide)]
    exact t6
  · rw [c 401 (by decide)]
    exact t7
  · rw [c 402 (by decide)] at ht
    have ht : (t : Int) < (z402.getD 2 0).toInt := ht
    rw [z_v.2.2.1] at ht
    have : (0 : Int32).toInt = 0 := rfl
    omega
