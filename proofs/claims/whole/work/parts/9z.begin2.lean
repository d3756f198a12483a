section BGN2
variable {b : Nat → Nat} {n T : Nat}
theorem id_b (p : Option (Int32 × PM)) : (p.bind fun q => some ((q.1, q.2))) = p := by cases p <;> rfl
theorem q_beginM {μ : PM} {i o s : Nat} {q : List Nat} {out : pz_C} (h : MZ μ b n T (i, q, o, false, out)) (hs : μ.1 401 14 = nI s) (h3 : s < 3) (hl : out.length + 1 + q.length ≤ 304) (hq : q.length < 130) : AZR μ b n T (az_begin (tk_t b n) (tk_v b n) (lk_of s) i q o out) (fX12_beginOne μ) := by
  have hT : TPM μ b n := h.1
  have hM : TM μ b n (tk_pos b n i) := h.2.1
  have hP : PLM μ q := h.2.2.1
  have k32 := tm_fig hT hM
  have hN := tm_name hT hM
  have k48 : μ.1 401 9 = 40 ↔ tk_t b n i = 48 := tm_sign (p := (40, 48)) hT hM (by decide)
  have k45 : μ.1 401 9 = 45 ↔ tk_t b n i = 45 := tm_sign (p := (45, 45)) hT hM (by decide)
  have w29 := tm_word (w := 29) hT hM (by omega) tw_at.2.2.2.2.2.2.2.2.2.2.1
  have w30 := tm_word (w := 30) hT hM (by omega) tw_at.2.2.2.2.2.2.2.2.2.2.2
  have w22 := tm_word (w := 22) hT hM (by omega) tw_at.2.2.2.1
  have w28 := tm_word (w := 28) hT hM (by omega) tw_at.2.2.2.2.2.2.2.2.2.1
  have hv := tm_val hT hM
  have flt : ∀ e : Nat, ¬ e = 0 → AZR μ b n T (.inr (e, i)) (some (nI e, μ)) := fun e he => ⟨μ, by rw [if_neg he], hM, EF.rfl' T μ, fun z => absurd z he⟩
  have wr : ∀ a c : Nat, AZR μ b n T (az_endOne (tk_t b n) (i + 1) q o (out ++ [(a, c)])) (jjX12_beginOne_81 μ (nI a) (nI c)) := fun a c => q_write h hl
  have op : ∀ x : Nat, x < 64 → (az_rank x = 7 ∨ x = 20 ∨ 40 ≤ x) → AZR μ b n T (az_opened i q o out x) ((fX12_opened μ (nI x)).bind fun q => some ((q.1, q.2))) := fun x hx hc => by
    rw [id_b]
    exact q_opened h hq hx hc
  unfold fX12_beginOne jjX12_beginOne_20 jjX12_beginOne_39 jjX12_beginOne_51 jjX12_beginOne_65 az_begin
  simp only [go_let]
  rw [hN, w29, w30, w22, w28, q_askAhead hP]
  generalize tk_t b n i = t at k32 k48 k45 hv ⊢
  by_cases c32 : t = 32
  · obtain ⟨w, v1, v2, v3, v4⟩ := hv c32
    have hc : nI w ≤ 9999 ↔ w ≤ 9999 := le_l (n := 9999) (by omega) (by omega)
    rw [if_pos (k32.mpr c32), v1]
    by_cases c9 : 9999 < tk_v b n i
    · rw [if_pos ⟨c32, c9⟩, if_neg (fun z => by
        have := hc.mp z
        by_cases y : tk_v b n i ≤ 99999
        · have := v3 y
          omega
        · have := v4 (by omega)
          omega)]
      exact flt 2 (by decide)
    · have ew : w = tk_v b n i := v3 (by omega)
      rw [if_neg (fun z => c9 z.2), if_neg (show ¬ ((10 ≤ t ∧ t ≤ 18) ∧ lk_of s < t) by omega), if_pos c32, if_pos (hc.mpr (by omega)), if_neg (show ¬ (10 ≤ t ∧ t ≤ 18) by omega), if_pos (show (-1 : Int32) < 0 by decide), if_pos (k32.mpr c32), if_pos (k32.mpr c32), if_pos (k32.mpr c32), ew]
      exact wr 0 (tk_v b n i)
  have n1 : ¬ μ.1 401 9 = 1 := fun z => c32 (k32.mp z)
  rw [if_neg n1, if_neg n1, if_neg n1, if_neg n1, if_neg (fun z => c32 z.1), if_neg (show ¬ t = 32 from c32)]
  by_cases cn : 10 ≤ t ∧ t ≤ 18
  · rw [show (if 10 ≤ t ∧ t ≤ 18 then nI (t - 10) else (-1 : Int32)) = nI (t - 10) from if_pos cn, if_neg (nI_pos (show t - 10 < 2147483648 by omega)), if_neg (nI_pos (show t - 10 < 2147483648 by omega)), q_isOf hs h3 (show t - 10 ≤ 8 by omega), show t - 10 + 10 = t by omega]
    by_cases cl : lk_of s < t
    · rw [if_pos cl, if_pos rfl, if_pos ⟨cn, cl⟩]
      exact flt 5 (by decide)
    · rw [if_neg cl, if_neg (show ¬ (1 : Int32) = 0 by decide), if_neg (show ¬ ((10 ≤ t ∧ t ≤ 18) ∧ lk_of s < t) from fun z => cl z.2), if_pos cn]
      exact wr 1 (t - 10)
  rw [show (if 10 ≤ t ∧ t ≤ 18 then nI (t - 10) else (-1 : Int32)) = -1 from if_neg cn, if_pos (show (-1 : Int32) < 0 by decide), if_pos (show (-1 : Int32) < 0 by decide), if_neg (show ¬ ((10 ≤ t ∧ t ≤ 18) ∧ lk_of s < t) from fun z => cn z.1), if_neg cn]
  by_cases c48 : t = 48
  · rw [if_pos (k48.mpr c48), if_pos c48]
    exact op 40 (by omega) (by decide)
  rw [if_neg (fun z => c48 (k48.mp z)), if_neg c48]
  by_cases c45 : t = 45
  · rw [if_pos (k45.mpr c45), if_pos c45]
    exact op 5 (by omega) (by decide)
  rw [if_neg (fun z => c45 (k45.mp z)), if_neg c45, q_ite, q_ite, q_ite, q_ite]
  by_cases c29 : t = 29
  · rw [if_pos c29, if_pos c29]
    exact op 41 (by omega) (by decide)
  rw [if_neg c29, if_neg c29]
  by_cases c30 : t = 30
  · rw [if_pos c30, if_pos c30]
    exact op 2 (by omega) (by decide)
  rw [if_neg c30, if_neg c30]
  by_cases c22 : t = 22
  · rw [if_pos c22, if_pos c22]
    exact op 42 (by omega) (by decide)
  rw [if_neg c22, if_neg c22]
  by_cases c28 : t = 28
  · rw [if_pos c28, Option.bind_some, q_ite]
    by_cases ca : az_ask q = true
    · rw [if_pos ca, if_pos ⟨c28, ca⟩]
      exact op 20 (by omega) (by decide)
    · rw [if_neg ca, if_neg (fun z => ca z.2)]
      exact flt 1 (by decide)
  · rw [if_neg c28, if_neg (fun z => c28 z.1)]
    exact flt 1 (by decide)
end BGN2
