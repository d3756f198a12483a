/-! ===== the law, its loop and its start ===== -/
def law_tg (x : Int32) : Nat := ([248, 281, 314, 363, 426, 449, 462, 485, 508, 531, 580, 613, 636, 659, 682, 715, 728, 761, 794, 837, 860, 893, 936, 979, 1022, 1071, 1084, 1117, 1130, 1153, 1223, 1276, 1299, 1322, 1345, 1378, 1401, 1424, 1473, 1486, 1499, 1512, 1545, 1558, 1571, 1584, 1597, 1620, 1633, 1646] : List Nat).getD x.toNatClampNeg 0
def law_of : Array Int := #[215, 248, 281, 330, 393, 416, 429, 452, 475, 498, 547, 580, 603, 626, 649, 682, 695, 728, 761, 804, 827, 860, 903, 946, 989, 1038, 1051, 1084, 1097, 1120, 1190, 1243, 1266, 1289, 1312, 1345, 1368, 1391, 1440, 1453, 1466, 1479, 1512, 1525, 1538, 1551, 1564, 1587, 1600, 1613]
theorem law_ofs : ∀ j, j < 50 → law_of[j]? = some (law_of.getD j 0) ∧ (33 : Int) + law_of.getD j 0 = ((law_tg (Int32.ofInt (0 + (j : Int))) : Nat) : Int) := by decide +kernel
theorem law_case {w : go_Wd} {tx i : Nat} {μ : PM} {Z : go_ZT} (hZ : go_up Z) (hL : w.2.2.2.2.2.1 ≤ 3072) (hi : i + 6 ≤ w.2.2.2.2.2.1) (hR : RR μ μ) (K : ∀ tx' μ', RR μ' μ' → Go w 544 0 0 mtL_law 1669 (lwl i) [] (go_mk tx' μ') Z) : ∀ k, k < 50 → Go w 544 0 0 mtL_law (law_tg (nI k)) (lwl i) [] (go_mk tx μ) Z := by
  intro k hk
  match k, hk with
  | 0, _ =>
    rw [show law_tg (nI 0) = 248 from by decide +kernel]
    exact lc_0 hZ hL hi hR K
  | 1, _ =>
    rw [show law_tg (nI 1) = 281 from by decide +kernel]
    exact lc_1 hZ hL hi hR K
  | 2, _ =>
    rw [show law_tg (nI 2) = 314 from by decide +kernel]
    exact lc_2 hZ hL hi hR K
  | 3, _ =>
    rw [show law_tg (nI 3) = 363 from by decide +kernel]
    exact lc_3 hZ hL hi hR K
  | 4, _ =>
    rw [show law_tg (nI 4) = 426 from by decide +kernel]
    exact lc_4 hZ hL hi hR K
  | 5, _ =>
    rw [show law_tg (nI 5) = 449 from by decide +kernel]
    exact lc_5 hZ hL hi hR K
  | 6, _ =>
    rw [show law_tg (nI 6) = 462 from by decide +kernel]
    exact lc_6 hZ hL hi hR K
  | 7, _ =>
    rw [show law_tg (nI 7) = 485 from by decide +kernel]
    exact lc_7 hZ hL hi hR K
  | 8, _ =>
    rw [show law_tg (nI 8) = 508 from by decide +kernel]
    exact lc_8 hZ hL hi hR K
  | 9, _ =>
    rw [show law_tg (nI 9) = 531 from by decide +kernel]
    exact lc_9 hZ hL hi hR K
  | 10, _ =>
    rw [show law_tg (nI 10) = 580 from by decide +kernel]
    exact lc_10 hZ hL hi hR K
  | 11, _ =>
    rw [show law_tg (nI 11) = 613 from by decide +kernel]
    exact lc_11 hZ hL hi hR K
  | 12, _ =>
    rw [show law_tg (nI 12) = 636 from by decide +kernel]
    exact lc_12 hZ hL hi hR K
  | 13, _ =>
    rw [show law_tg (nI 13) = 659 from by decide +kernel]
    exact lc_13 hZ hL hi hR K
  | 14, _ =>
    rw [show law_tg (nI 14) = 682 from by decide +kernel]
    exact lc_14 hZ hL hi hR K
  | 15, _ =>
    rw [show law_tg (nI 15) = 715 from by decide +kernel]
    exact lc_15 hZ hL hi hR K
  | 16, _ =>
    rw [show law_tg (nI 16) = 728 from by decide +kernel]
    exact lc_16 hZ hL hi hR K
  | 17, _ =>
    rw [show law_tg (nI 17) = 761 from by decide +kernel]
    exact lc_17 hZ hL hi hR K
  | 18, _ =>
    rw [show law_tg (nI 18) = 794 from by decide +kernel]
    exact lc_18 hZ hL hi hR K
  | 19, _ =>
    rw [show law_tg (nI 19) = 837 from by decide +kernel]
    exact lc_19 hZ hL hi hR K
  | 20, _ =>
    rw [show law_tg (nI 20) = 860 from by decide +kernel]
    exact lc_20 hZ hL hi hR K
  | 21, _ =>
    rw [show law_tg (nI 21) = 893 from by decide +kernel]
    exact lc_21 hZ hL hi hR K
  | 22, _ =>
    rw [show law_tg (nI 22) = 936 from by decide +kernel]
    exact lc_22 hZ hL hi hR K
  | 23, _ =>
    rw [show law_tg (nI 23) = 979 from by decide +kernel]
    exact lc_23 hZ hL hi hR K
  | 24, _ =>
    rw [show law_tg (nI 24) = 1022 from by decide +kernel]
    exact lc_24 hZ hL hi hR K
  | 25, _ =>
    rw [show law_tg (nI 25) = 1071 from by decide +kernel]
    exact lc_25 hZ hL hi hR K
  | 26, _ =>
    rw [show law_tg (nI 26) = 1084 from by decide +kernel]
    exact lc_26 hZ hL hi hR K
  | 27, _ =>
    rw [show law_tg (nI 27) = 1117 from by decide +kernel]
    exact lc_27 hZ hL hi hR K
  | 28, _ =>
    rw [show law_tg (nI 28) = 1130 from by decide +kernel]
    exact lc_28 hZ hL hi hR K
  | 29, _ =>
    rw [show law_tg (nI 29) = 1153 from by decide +kernel]
    exact lc_29 hZ hL hi hR K
  | 30, _ =>
    rw [show law_tg (nI 30) = 1223 from by decide +kernel]
    exact lc_30 hZ hL hi hR K
  | 31, _ =>
    rw [show law_tg (nI 31) = 1276 from by decide +kernel]
    exact lc_31 hZ hL hi hR K
  | 32, _ =>
    rw [show law_tg (nI 32) = 1299 from by decide +kernel]
    exact lc_32 hZ hL hi hR K
  | 33, _ =>
    rw [show law_tg (nI 33) = 1322 from by decide +kernel]
    exact lc_33 hZ hL hi hR K
  | 34, _ =>
    rw [show law_tg (nI 34) = 1345 from by decide +kernel]
    exact lc_34 hZ hL hi hR K
  | 35, _ =>
    rw [show law_tg (nI 35) = 1378 from by decide +kernel]
    exact lc_35 hZ hL hi hR K
  | 36, _ =>
    rw [show law_tg (nI 36) = 1401 from by decide +kernel]
    exact lc_36 hZ hL hi hR K
  | 37, _ =>
    rw [show law_tg (nI 37) = 1424 from by decide +kernel]
    exact lc_37 hZ hL hi hR K
  | 38, _ =>
    rw [show law_tg (nI 38) = 1473 from by decide +kernel]
    exact lc_38 hZ hL hi hR K
  | 39, _ =>
    rw [show law_tg (nI 39) = 1486 from by decide +kernel]
    exact lc_39 hZ hL hi hR K
  | 40, _ =>
    rw [show law_tg (nI 40) = 1499 from by decide +kernel]
    exact lc_40 hZ hL hi hR K
  | 41, _ =>
    rw [show law_tg (nI 41) = 1512 from by decide +kernel]
    exact lc_41 hZ hL hi hR K
  | 42, _ =>
    rw [show law_tg (nI 42) = 1545 from by decide +kernel]
    exact lc_42 hZ hL hi hR K
  | 43, _ =>
    rw [show law_tg (nI 43) = 1558 from by decide +kernel]
    exact lc_43 hZ hL hi hR K
  | 44, _ =>
    rw [show law_tg (nI 44) = 1571 from by decide +kernel]
    exact lc_44 hZ hL hi hR K
  | 45, _ =>
    rw [show law_tg (nI 45) = 1584 from by decide +kernel]
    exact lc_45 hZ hL hi hR K
  | 46, _ =>
    rw [show law_tg (nI 46) = 1597 from by decide +kernel]
    exact lc_46 hZ hL hi hR K
  | 47, _ =>
    rw [show law_tg (nI 47) = 1620 from by decide +kernel]
    exact lc_47 hZ hL hi hR K
  | 48, _ =>
    rw [show law_tg (nI 48) = 1633 from by decide +kernel]
    exact lc_48 hZ hL hi hR K
  | 49, _ =>
    rw [show law_tg (nI 49) = 1646 from by decide +kernel]
    exact lc_49 hZ hL hi hR K
  | k + 50, hk => omega
theorem law_loop {w : go_Wd} (hL : w.2.2.2.2.2.1 ≤ 3072) : ∀ n i tx μ, w.2.2.2.2.2.1 - i ≤ n → i ≤ w.2.2.2.2.2.1 → RR μ μ → Go w 544 0 0 mtL_law 18 (lwl i) [] (go_mk tx μ) (go_Z w (fun r _ => r = some (.int 1))) := by
  intro n
  induction n with
  | zero =>
    intro i tx μ hn hi hR
    have e : i = w.2.2.2.2.2.1 := by omega
    refine go_iload_n dL_law_18 0 rfl ?_
    refine go_aload_n dL_law_19 3 rfl ?_
    refine go_lenX dL_law_20 ?_
    refine go_bipush (v := 6) dL_law_21 (by decide) ?_
    refine go_isub dL_law_23 ?_
    refine go_icmp_gt 1675 dL_law_24 (by decide) (fun _ => ?_) (fun hc => ?_)
    · refine go_iconst (v := 1) dL_law_1675 (by decide) ?_
      exact go_zret dL_law_1676 rfl (Or.inr rfl) rfl
    · exfalso
      refine hc ?_
      show nI w.2.2.2.2.2.1 - 6 < nI i
      rw [i_lt, ti_sub (by rw [ti_n (by omega), show (6 : Int32).toInt = 6 from rfl]; omega) (by rw [ti_n (by omega), show (6 : Int32).toInt = 6 from rfl]; omega), ti_n (by omega), ti_n (by omega), show (6 : Int32).toInt = 6 from rfl]
      omega
  | succ n ih =>
    intro i tx μ hn hi hR
    refine go_iload_n dL_law_18 0 rfl ?_
    refine go_aload_n dL_law_19 3 rfl ?_
    refine go_lenX dL_law_20 ?_
    refine go_bipush (v := 6) dL_law_21 (by decide) ?_
    refine go_isub dL_law_23 ?_
    have cmp : nI w.2.2.2.2.2.1 - 6 < nI i ↔ ¬ i + 6 ≤ w.2.2.2.2.2.1 := by
      rw [i_lt, ti_sub (by rw [ti_n (by omega), show (6 : Int32).toInt = 6 from rfl]; omega) (by rw [ti_n (by omega), show (6 : Int32).toInt = 6 from rfl]; omega), ti_n (by omega), ti_n (by omega), show (6 : Int32).toInt = 6 from rfl]
      omega
    refine go_icmp_gt 1675 dL_law_24 (by decide) (fun _ => ?_) (fun hc => ?_)
    · refine go_iconst (v := 1) dL_law_1675 (by decide) ?_
      exact go_zret dL_law_1676 rfl (Or.inr rfl) rfl
    · have hi6 : i + 6 ≤ w.2.2.2.2.2.1 := by
        by_cases q : i + 6 ≤ w.2.2.2.2.2.1
        · exact q
        · exact absurd (cmp.mpr q) hc
      have K : ∀ tx' μ', RR μ' μ' → Go w 544 0 0 mtL_law 1669 (lwl i) [] (go_mk tx' μ') (go_Z w (fun r _ => r = some (.int 1))) := fun tx' μ' hR' => by
        refine go_iinc (v := nI (i + 6)) dL_law_1669 0 rfl (add_l 6 i) (by decide) rfl ?_
        show Go w 544 0 0 mtL_law 1672 (lwl (i + 6)) [] (go_mk tx' μ') (go_Z w _)
        refine go_goto 18 dL_law_1672 (by decide) ?_
        exact ih (i + 6) tx' μ' (by omega) hi6 hR'
      show Go w 544 0 0 mtL_law 27 (lwl i) [] (go_mk tx μ) (go_Z w _)
      refine go_aload_n dL_law_27 3 rfl ?_
      refine go_iload_n dL_law_28 0 rfl ?_
      refine go_ldX dL_law_29 (vp_n (by omega) (by omega)) ?_
      refine go_bipush (v := 63) dL_law_30 (by decide) ?_
      refine go_iand dL_law_32 ?_
      show Go w 544 0 0 mtL_law 33 (lwl i) _ (go_mk tx μ) (go_Z w _)
      obtain ⟨y, hy, ey⟩ := pk_andE (w.2.2.2.2.2.2 (nI i).toNatClampNeg) (m := 63) 6 (by decide)
      rw [ey]
      refine go_table (offs := law_of) (lo := 0) (hi := 49) dL_law_33 1669 law_tg (by decide) (fun j hj => ?_) (by decide) (fun h1 h2 => ?_) (fun _ => K tx μ hR)
      · rw [show law_of.size = 50 from rfl] at hj
        obtain ⟨g1, g2⟩ := law_ofs j hj
        exact ⟨_, g1, g2⟩
      · rw [ti_n (by omega)] at h2
        exact law_case (go_Z_up w _) hL hi6 hR K y (by omega)
theorem BA_W : BW BA := BW_nw BE_W
theorem law_go {w : go_Wd} (hL : w.2.2.2.2.2.1 ≤ 3072) : Go w 544 414 17081 mtL_law 0 [(0, .ref 1000002)] [] (bm BE) (go_Z w (fun r _ => r = some (.int 1))) := by
  refine bb_new2 (μ := mtL_law) (bc := 413) (bs := 17064) (by decide +kernel) (by decide +kernel) dL_law_0 cn_L_7 (go_Z_up w _) BE_W (show 0 < 900000 from Nat.le_of_ble_eq_true rfl) (stk_nil _) (lvk_x (Nat.le_of_ble_eq_true rfl) (lvk_nil _)) ?_
  show Go w 544 413 17064 mtL_law 3 [(0, .ref 1000002)] [.ref 0] (bm BA) (go_Z w _)
  refine go_dup dL_law_3 rfl ?_
  have hBA : BA.1.length < 500000 := by decide +kernel
  obtain ⟨BX, eX, WX, lX, KX, -⟩ := stX11 (B := BA) (c := 0) BA_W hBA rfl
  refine bb_callI2 (μ := mtL_law) (bc := 13) (bs := 7762) (bc2 := 400) (bs2 := 9302) (b := 0) (as := []) (st := [.ref 0]) (B' := bX11 BA 0) (by decide +kernel) (by decide +kernel) dL_law_4 ll_L_9 (ci_X11 BA_W hBA rfl) rfl (Nat.le_of_ble_eq_true rfl) (Nat.le_of_ble_eq_true rfl) (go_Z_up w _) rfl (stk_r (by decide +kernel) (stk_nil _)) (lvk_x (Nat.le_of_ble_eq_true rfl) (lvk_nil _)) ?_
  have lX1 : BX.1.length = 401 := by
    rw [lX]
    decide +kernel
  show Go w 544 13 7762 mtL_law 7 [(0, .ref 1000002)] [.ref 0] (bm (bX11 BA 0)) (go_Z w _)
  refine go_astore_n dL_law_7 (by decide) rfl ?_
  show Go w 544 13 7762 mtL_law 8 [(1, .ref 0), (0, .ref 1000002)] [] (bm (bX11 BA 0)) (go_Z w _)
  have eM : b_nw BX (12, go_N 12) = BM := by rw [eX]; rfl
  rw [← eX]
  refine bb_new2 (μ := mtL_law) (bc := 12) (bs := 7733) (by decide +kernel) (by decide +kernel) dL_law_8 cn_L_10 (go_Z_up w _) WX (by omega) (stk_nil _) (lvk_r (by omega) (lvk_x (Nat.le_of_ble_eq_true rfl) (lvk_nil _))) ?_
  have WM : BW BM := by rw [← eM]; exact BW_nw WX
  have lM : BM.1.length = 402 := by rw [← eM, nw_l]; omega
  have hM : BM.1[401]? = some (12, 29) := by
    have := nw_n (B := BX) (k := (12, go_N 12))
    rw [lX1, eM] at this
    exact this
  rw [lX1, eM]
  show Go w 544 12 7733 mtL_law 11 [(1, .ref 0), (0, .ref 1000002)] [.ref 401] (bm BM) (go_Z w _)
  refine go_dup dL_law_11 rfl ?_
  have r := go_callI (μ := mtL_law) (bc := 0) (bs := 0) (b := 401) (as := []) (st := [.ref 401]) (lv := [(1, .ref 0), (0, .ref 1000002)]) (pc := 12) (d := 544) (Z := go_Z w (fun r _ => r = some (.int 1))) dL_law_12 ll_L_12 (ci_X12 (w := w) WM lM hM mem_0 cop_0) rfl (Nat.le_of_ble_eq_true rfl) (Nat.le_of_ble_eq_true rfl) (go_Z_up w _) rfl (fun r M' h => Or.inr ⟨stk_r (show 401 < BM.1.length by omega) (stk_nil _), lvk_r (show 0 < BM.1.length by omega) (lvk_x (Nat.le_of_ble_eq_true rfl) (lvk_nil _))⟩) (fun r M' h => by
    obtain ⟨rfl, rfl⟩ := h
    show Go w 544 0 0 mtL_law 15 [(1, .ref 0), (0, .ref 1000002)] [.ref 401] (go_mk 376 μ01) (go_Z w _)
    refine go_astore_n dL_law_15 (by decide) rfl ?_
    show Go w 544 0 0 mtL_law 16 [(2, .ref 401), (1, .ref 0), (0, .ref 1000002)] [] (go_mk 376 μ01) (go_Z w _)
    refine go_iconst (v := 0) dL_law_16 (by decide) ?_
    refine go_istore_n dL_law_17 (by decide) rfl ?_
    exact law_loop hL w.2.2.2.2.2.1 0 376 μ01 (by omega) (by omega) RR_0)
  exact r
