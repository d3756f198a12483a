/-! ===== the class's cells beside the reference's row: where each place of the row lies in a Valley (by its first cell), its bounds; a Water beside a kept row ===== -/
def vz_tab : List (Nat × Nat) := [(11, 5), (11, 6), (0, 13), (0, 14), (16, 2), (0, 16), (0, 17), (11, 9), (11, 10), (11, 8), (11, 7), (11, 4), (12, 0), (13, 0), (12, 1), (13, 1), (12, 2), (13, 2), (12, 3), (13, 3), (12, 4), (13, 4), (12, 5), (13, 5), (14, 0), (14, 1), (14, 2), (14, 3), (14, 4), (0, 12), (1, 0), (1, 1), (1, 2), (1, 3), (1, 4), (1, 5), (2, 0), (2, 1), (2, 2), (2, 3), (2, 4), (2, 5), (3, 0), (3, 1), (3, 2), (3, 3), (3, 4), (4, 0), (4, 1), (4, 2), (4, 3), (4, 4), (5, 0), (5, 1), (5, 2), (5, 3), (5, 4), (5, 5), (5, 6), (5, 7), (5, 8), (5, 9), (5, 10), (5, 11), (5, 12), (5, 13), (5, 14), (5, 15), (5, 16), (5, 17), (5, 18), (5, 19), (5, 20), (5, 21), (5, 22), (5, 23), (5, 24), (5, 25), (5, 26), (5, 27), (5, 28), (5, 29), (6, 0), (6, 1), (6, 2), (6, 3), (6, 4), (6, 5), (6, 6), (6, 7), (6, 8), (6, 9), (6, 10), (6, 11), (6, 12), (6, 13), (6, 14), (6, 15), (6, 16), (6, 17), (6, 18), (6, 19), (6, 20), (6, 21), (6, 22), (6, 23), (6, 24), (6, 25), (6, 26), (6, 27), (6, 28), (6, 29), (7, 0), (7, 1), (7, 2), (7, 3), (7, 4), (8, 0), (8, 1), (8, 2), (8, 3), (8, 4), (8, 5), (8, 6), (8, 7), (0, 15), (9, 0), (10, 0), (9, 1), (10, 1), (9, 2), (10, 2), (9, 3), (10, 3), (9, 4), (10, 4), (9, 5), (10, 5), (9, 6), (10, 6), (9, 7), (10, 7)]
def vz_loc (k : Nat) : Nat × Nat := vz_tab.getD k (0, 0)
def vz_bnd : List (Int × Int) := [(0, 6), (0, 5), (0, 4), (-1, 3), (0, 30), (0, 8), (0, 8), (0, 9999), (0, 30772), (0, 9), (0, 1023), (0, 30), (-1, 24), (0, 5), (-1, 24), (0, 5), (-1, 24), (0, 5), (-1, 24), (0, 5), (-1, 24), (0, 5), (-1, 24), (0, 5), (0, 9), (0, 9), (0, 9), (0, 9), (0, 9), (0, 1023), (0, 99999), (0, 99999), (0, 99999), (0, 99999), (0, 99999), (0, 99999), (0, 9), (0, 9), (0, 9), (0, 9), (0, 9), (0, 9), (0, 9), (0, 9), (0, 9), (0, 9), (0, 9), (0, 9), (0, 9), (0, 9), (0, 9), (0, 9), (0, 99), (0, 99), (0, 99), (0, 99), (0, 99), (0, 99), (0, 99), (0, 99), (0, 99), (0, 99), (0, 99), (0, 99), (0, 99), (0, 99), (0, 99), (0, 99), (0, 99), (0, 99), (0, 99), (0, 99), (0, 99), (0, 99), (0, 99), (0, 99), (0, 99), (0, 99), (0, 99), (0, 99), (0, 99), (0, 99), (0, 99), (0, 99), (0, 99), (0, 99), (0, 99), (0, 99), (0, 99), (0, 99), (0, 99), (0, 99), (0, 99), (0, 99), (0, 99), (0, 99), (0, 99), (0, 99), (0, 99), (0, 99), (0, 99), (0, 99), (0, 99), (0, 99), (0, 99), (0, 99), (0, 99), (0, 99), (0, 99), (0, 99), (0, 99), (0, 99), (-1, 5), (-1, 5), (-1, 5), (-1, 5), (-1, 5), (0, 99999), (0, 99999), (0, 99999), (0, 99999), (0, 99999), (0, 99999), (0, 99999), (0, 99999), (1, 99), (0, 5), (-99, 99), (0, 5), (-99, 99), (0, 5), (-99, 99), (0, 5), (-99, 99), (0, 5), (-99, 99), (0, 5), (-99, 99), (0, 5), (-99, 99), (0, 5), (-99, 99)]
def vz_lo (k : Nat) : Int := (vz_bnd.getD k (0, 0)).1
def vz_hi (k : Nat) : Int := (vz_bnd.getD k (0, 0)).2
def vz_wt : List (Nat × Nat) := [(0, 5), (0, 6), (0, 9), (0, 10), (0, 8), (0, 7), (0, 4), (1, 0), (2, 0), (1, 1), (2, 1), (1, 2), (2, 2), (1, 3), (2, 3), (1, 4), (2, 4), (1, 5), (2, 5), (3, 0), (3, 1), (3, 2), (3, 3), (3, 4)]
def vz_wl (j : Nat) : Nat × Nat := vz_wt.getD j (0, 0)
theorem vl_place : ∀ n, n < 6 → vz_loc (12 + 2 * n) = (12, n) := by decide +kernel
theorem vb_place : ∀ n, n < 6 → vz_lo (12 + 2 * n) = -1 ∧ vz_hi (12 + 2 * n) = 24 := by decide +kernel
theorem vl_size : ∀ n, n < 6 → vz_loc (13 + 2 * n) = (13, n) := by decide +kernel
theorem vb_size : ∀ n, n < 6 → vz_lo (13 + 2 * n) = 0 ∧ vz_hi (13 + 2 * n) = 5 := by decide +kernel
theorem vl_stand : ∀ n, n < 5 → vz_loc (24 + n) = (14, n) := by decide +kernel
theorem vb_stand : ∀ n, n < 5 → vz_lo (24 + n) = 0 ∧ vz_hi (24 + n) = 9 := by decide +kernel
theorem vl_sounds : ∀ n, n < 6 → vz_loc (30 + n) = (1, n) := by decide +kernel
theorem vb_sounds : ∀ n, n < 6 → vz_lo (30 + n) = 0 ∧ vz_hi (30 + n) = 99999 := by decide +kernel
theorem vl_layer : ∀ n, n < 6 → vz_loc (36 + n) = (2, n) := by decide +kernel
theorem vb_layer : ∀ n, n < 6 → vz_lo (36 + n) = 0 ∧ vz_hi (36 + n) = 9 := by decide +kernel
theorem vl_net : ∀ n, n < 5 → vz_loc (42 + n) = (3, n) := by decide +kernel
theorem vb_net : ∀ n, n < 5 → vz_lo (42 + n) = 0 ∧ vz_hi (42 + n) = 9 := by decide +kernel
theorem vl_home : ∀ n, n < 5 → vz_loc (47 + n) = (4, n) := by decide +kernel
theorem vb_home : ∀ n, n < 5 → vz_lo (47 + n) = 0 ∧ vz_hi (47 + n) = 9 := by decide +kernel
theorem vl_want : ∀ n, n < 30 → vz_loc (52 + n) = (5, n) := by decide +kernel
theorem vb_want : ∀ n, n < 30 → vz_lo (52 + n) = 0 ∧ vz_hi (52 + n) = 99 := by decide +kernel
theorem vl_favour : ∀ n, n < 30 → vz_loc (82 + n) = (6, n) := by decide +kernel
theorem vb_favour : ∀ n, n < 30 → vz_lo (82 + n) = 0 ∧ vz_hi (82 + n) = 99 := by decide +kernel
theorem vl_given : ∀ n, n < 5 → vz_loc (112 + n) = (7, n) := by decide +kernel
theorem vb_given : ∀ n, n < 5 → vz_lo (112 + n) = -1 ∧ vz_hi (112 + n) = 5 := by decide +kernel
theorem vl_halves : ∀ n, n < 8 → vz_loc (117 + n) = (8, n) := by decide +kernel
theorem vb_halves : ∀ n, n < 8 → vz_lo (117 + n) = 0 ∧ vz_hi (117 + n) = 99999 := by decide +kernel
theorem vl_saidName : ∀ n, n < 8 → vz_loc (126 + 2 * n) = (9, n) := by decide +kernel
theorem vb_saidName : ∀ n, n < 8 → vz_lo (126 + 2 * n) = 0 ∧ vz_hi (126 + 2 * n) = 5 := by decide +kernel
theorem vl_saidMelts : ∀ n, n < 8 → vz_loc (127 + 2 * n) = (10, n) := by decide +kernel
theorem vb_saidMelts : ∀ n, n < 8 → vz_lo (127 + 2 * n) = -99 ∧ vz_hi (127 + 2 * n) = 99 := by decide +kernel
theorem vz_inj : ∀ j, j < 142 → ∀ k, k < 142 → vz_loc j = vz_loc k → j = k := by decide +kernel
def VF (μ : PM) (q : Nat) (a : Nat → Int32) : Prop := ∀ k, k < 142 → μ.1 (q + (vz_loc k).1) (vz_loc k).2 = a k
def OB (a : Nat → Int32) : Prop := ∀ k, k < 142 → vz_lo k ≤ (a k).toInt ∧ (a k).toInt ≤ vz_hi k
/-- a line of the book, as the class writes it and as the reference does -/
def BKr (x y : Int32) : Prop := ∃ h n w p : Nat, h < 10000 ∧ n < 6 ∧ w < 3 ∧ p < 10 ∧ x = nI (h * 1000 + n * 100 + w * 10 + p) ∧ y = nI (((h * 6 + n) * 3 + w) * 10 + p)
def VB (μ : PM) (q : Nat) (a : Nat → Int32) : Prop := ∀ k, k < 30 → BKr (μ.1 (q + 15) k) (a (1762 + k))
/-- what is kept of a row of the reference, as it stands now -/
def vz_cur (a : Nat → Int32) (j : Nat) : Int32 := if j < 2 then a j else if j < 24 then a (5 + j) else a (1738 + j)
def WR (μ : PM) (o : Nat) (r : Nat → Int32) : Prop := (∀ j, j < 24 → μ.1 (o + (vz_wl j).1) (vz_wl j).2 = r j) ∧ ∀ k, k < 30 → BKr (μ.1 (o + 4) k) (r (24 + k))
def VS (μ : PM) (q : Nat) (a : Nat → Int32) : Prop := ∃ f : Nat, f < 30 ∧ μ.1 (q + 16) 1 = nI f ∧ ∀ i, i < (a 4).toNatClampNeg → WR μ (q + 18 + 5 * ((f + i) % 30)) (fun j => a (142 + 54 * i + j))
/-- a kept row is in its bounds: places are such, sizes of those that are there are no 0 -/
def WO (r : Nat → Int32) : Prop := (∀ j, j < 24 → vz_lo (if j < 2 then j else 5 + j) ≤ (r j).toInt ∧ (r j).toInt ≤ vz_hi (if j < 2 then j else 5 + j)) ∧ (∀ n, n < 6 → (r (7 + 2 * n)).toInt ≤ 10 ∨ 20 ≤ (r (7 + 2 * n)).toInt) ∧ ∀ n : Nat, (n : Int) < (r 0).toInt → n < 6 → 1 ≤ (r (8 + 2 * n)).toInt
def vz_len : Nat → Nat → Nat
  | 0, _ => 0
  | n + 1, m => if m = 0 then 0 else vz_len n (m / 10) + 1
def vz_nz : Nat → Nat → Bool
  | 0, _ => true
  | n + 1, m => if m = 0 then true else decide (m % 10 ≠ 0) && vz_nz n (m / 10)
/-- SOUNDS: 1 to 5 digits, none 0 -/
def vz_sd (x : Int32) : Prop := 1 ≤ x.toInt ∧ x.toInt ≤ 99999 ∧ vz_nz 6 x.toNatClampNeg = true
/-- HALVES: none yet, or SOUNDS -/
def vz_hs (a : Nat → Int32) : Prop := ∀ i, i < 8 → a (117 + i) = 0 ∨ vz_sd (a (117 + i))
def OA (a : Nat → Int32) : Prop := OB a ∧ WO (vz_cur a) ∧ (∀ n : Nat, (n : Int) < (a 0).toInt → vz_sd (a (30 + n))) ∧ (a 3).toInt < (a 2).toInt ∧
  (∀ f, f < 5 → (a (112 + f)).toInt < (a 0).toInt ∧ ((a 1).toInt ≤ (f : Int) → a (112 + f) = -1) ∧ ∀ g, g < 5 → a (112 + f) = a (112 + g) → a (112 + f) = -1 ∨ f = g) ∧
  (∀ i : Nat, (i : Int) < (a 6).toInt → (a (126 + 2 * i)).toInt < (a 0).toInt) ∧
  (∀ i : Nat, (i : Int) < (a 4).toInt → WO (fun j => a (142 + 54 * i + j)) ∧ (a (142 + 54 * i)).toInt ≤ (a 0).toInt ∧ (a (142 + 54 * i + 1)).toInt ≤ (a 1).toInt) ∧ vz_hs a
theorem v1_names {μ : PM} {a : Nat → Int32} (h : VF μ 1 a) : μ.1 12 5 = a 0 := h 0 (by decide)
theorem ob_names {a : Nat → Int32} (h : OB a) : 0 ≤ (a 0).toInt ∧ (a 0).toInt ≤ 6 := h 0 (by decide)
theorem v1_families {μ : PM} {a : Nat → Int32} (h : VF μ 1 a) : μ.1 12 6 = a 1 := h 1 (by decide)
theorem ob_families {a : Nat → Int32} (h : OB a) : 0 ≤ (a 1).toInt ∧ (a 1).toInt ≤ 5 := h 1 (by decide)
theorem v1_texts {μ : PM} {a : Nat → Int32} (h : VF μ 1 a) : μ.1 1 13 = a 2 := h 2 (by decide)
theorem ob_texts {a : Nat → Int32} (h : OB a) : 0 ≤ (a 2).toInt ∧ (a 2).toInt ≤ 4 := h 2 (by decide)
theorem v1_ruling {μ : PM} {a : Nat → Int32} (h : VF μ 1 a) : μ.1 1 14 = a 3 := h 3 (by decide)
theorem ob_ruling {a : Nat → Int32} (h : OB a) : -1 ≤ (a 3).toInt ∧ (a 3).toInt ≤ 3 := h 3 (by decide)
theorem v1_count {μ : PM} {a : Nat → Int32} (h : VF μ 1 a) : μ.1 17 2 = a 4 := h 4 (by decide)
theorem ob_count {a : Nat → Int32} (h : OB a) : 0 ≤ (a 4).toInt ∧ (a 4).toInt ≤ 30 := h 4 (by decide)
theorem v1_halfCount {μ : PM} {a : Nat → Int32} (h : VF μ 1 a) : μ.1 1 16 = a 5 := h 5 (by decide)
theorem ob_halfCount {a : Nat → Int32} (h : OB a) : 0 ≤ (a 5).toInt ∧ (a 5).toInt ≤ 8 := h 5 (by decide)
theorem v1_saidCount {μ : PM} {a : Nat → Int32} (h : VF μ 1 a) : μ.1 1 17 = a 6 := h 6 (by decide)
theorem ob_saidCount {a : Nat → Int32} (h : OB a) : 0 ≤ (a 6).toInt ∧ (a 6).toInt ≤ 8 := h 6 (by decide)
theorem v1_hour {μ : PM} {a : Nat → Int32} (h : VF μ 1 a) : μ.1 12 9 = a 7 := h 7 (by decide)
theorem ob_hour {a : Nat → Int32} (h : OB a) : 0 ≤ (a 7).toInt ∧ (a 7).toInt ≤ 9999 := h 7 (by decide)
theorem v1_x {μ : PM} {a : Nat → Int32} (h : VF μ 1 a) : μ.1 12 10 = a 8 := h 8 (by decide)
theorem ob_x {a : Nat → Int32} (h : OB a) : 0 ≤ (a 8).toInt ∧ (a 8).toInt ≤ 30772 := h 8 (by decide)
theorem v1_warm {μ : PM} {a : Nat → Int32} (h : VF μ 1 a) : μ.1 12 8 = a 9 := h 9 (by decide)
theorem ob_warm {a : Nat → Int32} (h : OB a) : 0 ≤ (a 9).toInt ∧ (a 9).toInt ≤ 9 := h 9 (by decide)
theorem v1_stones {μ : PM} {a : Nat → Int32} (h : VF μ 1 a) : μ.1 12 7 = a 10 := h 10 (by decide)
theorem ob_stones {a : Nat → Int32} (h : OB a) : 0 ≤ (a 10).toInt ∧ (a 10).toInt ≤ 1023 := h 10 (by decide)
theorem v1_written {μ : PM} {a : Nat → Int32} (h : VF μ 1 a) : μ.1 12 4 = a 11 := h 11 (by decide)
theorem ob_written {a : Nat → Int32} (h : OB a) : 0 ≤ (a 11).toInt ∧ (a 11).toInt ≤ 30 := h 11 (by decide)
theorem v1_eddies {μ : PM} {a : Nat → Int32} (h : VF μ 1 a) : μ.1 1 12 = a 29 := h 29 (by decide)
theorem ob_eddies {a : Nat → Int32} (h : OB a) : 0 ≤ (a 29).toInt ∧ (a 29).toInt ≤ 1023 := h 29 (by decide)
theorem v1_quota {μ : PM} {a : Nat → Int32} (h : VF μ 1 a) : μ.1 1 15 = a 125 := h 125 (by decide)
theorem ob_quota {a : Nat → Int32} (h : OB a) : 1 ≤ (a 125).toInt ∧ (a 125).toInt ≤ 99 := h 125 (by decide)
theorem v1_place {μ : PM} {a : Nat → Int32} (h : VF μ 1 a) {n : Nat} (hn : n < 6) : μ.1 13 n = a (12 + 2 * n) := by
  have := h (12 + 2 * n) (by omega)
  rw [vl_place n hn] at this
  exact this
theorem ob_place {a : Nat → Int32} (h : OB a) {n : Nat} (hn : n < 6) : -1 ≤ (a (12 + 2 * n)).toInt ∧ (a (12 + 2 * n)).toInt ≤ 24 := by
  have := h (12 + 2 * n) (by omega)
  rw [(vb_place n hn).1, (vb_place n hn).2] at this
  exact this
theorem v1_size {μ : PM} {a : Nat → Int32} (h : VF μ 1 a) {n : Nat} (hn : n < 6) : μ.1 14 n = a (13 + 2 * n) := by
  have := h (13 + 2 * n) (by omega)
  rw [vl_size n hn] at this
  exact this
theorem ob_size {a : Nat → Int32} (h : OB a) {n : Nat} (hn : n < 6) : 0 ≤ (a (13 + 2 * n)).toInt ∧ (a (13 + 2 * n)).toInt ≤ 5 := by
  have := h (13 + 2 * n) (by omega)
  rw [(vb_size n hn).1, (vb_size n hn).2] at this
  exact this
theorem v1_stand {μ : PM} {a : Nat → Int32} (h : VF μ 1 a) {n : Nat} (hn : n < 5) : μ.1 15 n = a (24 + n) := by
  have := h (24 + n) (by omega)
  rw [vl_stand n hn] at this
  exact this
theorem ob_stand {a : Nat → Int32} (h : OB a) {n : Nat} (hn : n < 5) : 0 ≤ (a (24 + n)).toInt ∧ (a (24 + n)).toInt ≤ 9 := by
  have := h (24 + n) (by omega)
  rw [(vb_stand n hn).1, (vb_stand n hn).2] at this
  exact this
theorem v1_sounds {μ : PM} {a : Nat → Int32} (h : VF μ 1 a) {n : Nat} (hn : n < 6) : μ.1 2 n = a (30 + n) := by
  have := h (30 + n) (by omega)
  rw [vl_sounds n hn] at this
  exact this
theorem ob_sounds {a : Nat → Int32} (h : OB a) {n : Nat} (hn : n < 6) : 0 ≤ (a (30 + n)).toInt ∧ (a (30 + n)).toInt ≤ 99999 := by
  have := h (30 + n) (by omega)
  rw [(vb_sounds n hn).1, (vb_sounds n hn).2] at this
  exact this
theorem v1_layer {μ : PM} {a : Nat → Int32} (h : VF μ 1 a) {n : Nat} (hn : n < 6) : μ.1 3 n = a (36 + n) := by
  have := h (36 + n) (by omega)
  rw [vl_layer n hn] at this
  exact this
theorem ob_layer {a : Nat → Int32} (h : OB a) {n : Nat} (hn : n < 6) : 0 ≤ (a (36 + n)).toInt ∧ (a (36 + n)).toInt ≤ 9 := by
  have := h (36 + n) (by omega)
  rw [(vb_layer n hn).1, (vb_layer n hn).2] at this
  exact this
theorem v1_net {μ : PM} {a : Nat → Int32} (h : VF μ 1 a) {n : Nat} (hn : n < 5) : μ.1 4 n = a (42 + n) := by
  have := h (42 + n) (by omega)
  rw [vl_net n hn] at this
  exact this
theorem ob_net {a : Nat → Int32} (h : OB a) {n : Nat} (hn : n < 5) : 0 ≤ (a (42 + n)).toInt ∧ (a (42 + n)).toInt ≤ 9 := by
  have := h (42 + n) (by omega)
  rw [(vb_net n hn).1, (vb_net n hn).2] at this
  exact this
theorem v1_home {μ : PM} {a : Nat → Int32} (h : VF μ 1 a) {n : Nat} (hn : n < 5) : μ.1 5 n = a (47 + n) := by
  have := h (47 + n) (by omega)
  rw [vl_home n hn] at this
  exact this
theorem ob_home {a : Nat → Int32} (h : OB a) {n : Nat} (hn : n < 5) : 0 ≤ (a (47 + n)).toInt ∧ (a (47 + n)).toInt ≤ 9 := by
  have := h (47 + n) (by omega)
  rw [(vb_home n hn).1, (vb_home n hn).2] at this
  exact this
theorem v1_want {μ : PM} {a : Nat → Int32} (h : VF μ 1 a) {n : Nat} (hn : n < 30) : μ.1 6 n = a (52 + n) := by
  have := h (52 + n) (by omega)
  rw [vl_want n hn] at this
  exact this
theorem ob_want {a : Nat → Int32} (h : OB a) {n : Nat} (hn : n < 30) : 0 ≤ (a (52 + n)).toInt ∧ (a (52 + n)).toInt ≤ 99 := by
  have := h (52 + n) (by omega)
  rw [(vb_want n hn).1, (vb_want n hn).2] at this
  exact this
theorem v1_favour {μ : PM} {a : Nat → Int32} (h : VF μ 1 a) {n : Nat} (hn : n < 30) : μ.1 7 n = a (82 + n) := by
  have := h (82 + n) (by omega)
  rw [vl_favour n hn] at this
  exact this
theorem ob_favour {a : Nat → Int32} (h : OB a) {n : Nat} (hn : n < 30) : 0 ≤ (a (82 + n)).toInt ∧ (a (82 + n)).toInt ≤ 99 := by
  have := h (82 + n) (by omega)
  rw [(vb_favour n hn).1, (vb_favour n hn).2] at this
  exact this
theorem v1_given {μ : PM} {a : Nat → Int32} (h : VF μ 1 a) {n : Nat} (hn : n < 5) : μ.1 8 n = a (112 + n) := by
  have := h (112 + n) (by omega)
  rw [vl_given n hn] at this
  exact this
theorem ob_given {a : Nat → Int32} (h : OB a) {n : Nat} (hn : n < 5) : -1 ≤ (a (112 + n)).toInt ∧ (a (112 + n)).toInt ≤ 5 := by
  have := h (112 + n) (by omega)
  rw [(vb_given n hn).1, (vb_given n hn).2] at this
  exact this
theorem v1_halves {μ : PM} {a : Nat → Int32} (h : VF μ 1 a) {n : Nat} (hn : n < 8) : μ.1 9 n = a (117 + n) := by
  have := h (117 + n) (by omega)
  rw [vl_halves n hn] at this
  exact this
theorem ob_halves {a : Nat → Int32} (h : OB a) {n : Nat} (hn : n < 8) : 0 ≤ (a (117 + n)).toInt ∧ (a (117 + n)).toInt ≤ 99999 := by
  have := h (117 + n) (by omega)
  rw [(vb_halves n hn).1, (vb_halves n hn).2] at this
  exact this
theorem v1_saidName {μ : PM} {a : Nat → Int32} (h : VF μ 1 a) {n : Nat} (hn : n < 8) : μ.1 10 n = a (126 + 2 * n) := by
  have := h (126 + 2 * n) (by omega)
  rw [vl_saidName n hn] at this
  exact this
theorem ob_saidName {a : Nat → Int32} (h : OB a) {n : Nat} (hn : n < 8) : 0 ≤ (a (126 + 2 * n)).toInt ∧ (a (126 + 2 * n)).toInt ≤ 5 := by
  have := h (126 + 2 * n) (by omega)
  rw [(vb_saidName n hn).1, (vb_saidName n hn).2] at this
  exact this
theorem v1_saidMelts {μ : PM} {a : Nat → Int32} (h : VF μ 1 a) {n : Nat} (hn : n < 8) : μ.1 11 n = a (127 + 2 * n) := by
  have := h (127 + 2 * n) (by omega)
  rw [vl_saidMelts n hn] at this
  exact this
theorem ob_saidMelts {a : Nat → Int32} (h : OB a) {n : Nat} (hn : n < 8) : -99 ≤ (a (127 + 2 * n)).toInt ∧ (a (127 + 2 * n)).toInt ≤ 99 := by
  have := h (127 + 2 * n) (by omega)
  rw [(vb_saidMelts n hn).1, (vb_saidMelts n hn).2] at this
  exact this
theorem VF_set {μ : PM} {q : Nat} {a : Nat → Int32} (h : VF μ q a) {k : Nat} (hk : k < 142) (v : Int32) : VF (pm_wi μ (q + (vz_loc k).1) (vz_loc k).2 v) q (upd a k v) := by
  intro j hj
  rw [wi_r]
  unfold upd
  by_cases e : j = k
  · subst e
    rw [if_pos ⟨rfl, rfl⟩, if_pos rfl]
  · rw [if_neg e, if_neg (fun hh => e (vz_inj j hj k hk (Prod.ext (by omega) hh.2)))]
    exact h j hj
theorem VF_eq {μ μ' : PM} {q : Nat} {a : Nat → Int32} (h : VF μ q a) (he : ∀ k, k < 142 → μ'.1 (q + (vz_loc k).1) (vz_loc k).2 = μ.1 (q + (vz_loc k).1) (vz_loc k).2) : VF μ' q a := fun k hk => (he k hk).trans (h k hk)
theorem vz_loc_le : ∀ k, k < 142 → (vz_loc k).1 ≤ 16 ∧ (vz_loc k).1 ≠ 15 ∧ ((vz_loc k).1 = 16 → (vz_loc k).2 = 2) ∧ ((vz_loc k).1 = 0 → 12 ≤ (vz_loc k).2) ∧ ((vz_loc k).1 = 11 → 4 ≤ (vz_loc k).2 ∧ (vz_loc k).2 ≤ 10) := by decide +kernel
/-- cells of another place are written -/
theorem VF_out {μ : PM} {q c i : Nat} {v : Int32} {a : Nat → Int32} (h : VF μ q a) (hc : c < q ∨ q + 16 < c ∨ c = q + 15 ∨ (c = q + 16 ∧ i ≠ 2)) : VF (pm_wi μ c i v) q a := by
  refine VF_eq h (fun k hk => ?_)
  obtain ⟨h1, h2, h3, -⟩ := vz_loc_le k hk
  rw [wi_r, if_neg]
  rintro ⟨e1, e2⟩
  rcases hc with hc | hc | hc | ⟨hc, hi⟩
  · omega
  · omega
  · omega
  · exact hi (by rw [← e2]; exact h3 (by omega))
theorem VF_hi {μ : PM} {q k : Nat} {v : Int32} {a : Nat → Int32} (h : VF μ q a) (hk : 142 ≤ k) : VF μ q (upd a k v) := by
  intro j hj
  unfold upd
  rw [if_neg (by omega)]
  exact h j hj
theorem OB_set {a : Nat → Int32} (h : OB a) {k : Nat} {v : Int32} (hv : vz_lo k ≤ v.toInt ∧ v.toInt ≤ vz_hi k) : OB (upd a k v) := by
  intro j hj
  unfold upd
  by_cases e : j = k
  · subst e
    rw [if_pos rfl]
    exact hv
  · rw [if_neg e]
    exact h j hj
theorem upd_e (a : Nat → Int32) (k : Nat) (v : Int32) : upd a k v k = v := if_pos rfl
theorem upd_n {a : Nat → Int32} {k j : Nat} {v : Int32} (h : j ≠ k) : upd a k v j = a j := if_neg h
theorem wi_u (μ : PM) (c i : Nat) (v : Int32) : (pm_wi μ c i v).1 c = upd (μ.1 c) i v := by
  unfold pm_wi va_up
  simp
theorem s1_names {μ : PM} {a : Nat → Int32} (h : VF μ 1 a) (v : Int32) : VF (pm_wi μ 12 5 v) 1 (upd a 0 v) := VF_set h (k := 0) (by decide) v
theorem s1_families {μ : PM} {a : Nat → Int32} (h : VF μ 1 a) (v : Int32) : VF (pm_wi μ 12 6 v) 1 (upd a 1 v) := VF_set h (k := 1) (by decide) v
theorem s1_texts {μ : PM} {a : Nat → Int32} (h : VF μ 1 a) (v : Int32) : VF (pm_wi μ 1 13 v) 1 (upd a 2 v) := VF_set h (k := 2) (by decide) v
theorem s1_ruling {μ : PM} {a : Nat → Int32} (h : VF μ 1 a) (v : Int32) : VF (pm_wi μ 1 14 v) 1 (upd a 3 v) := VF_set h (k := 3) (by decide) v
theorem s1_count {μ : PM} {a : Nat → Int32} (h : VF μ 1 a) (v : Int32) : VF (pm_wi μ 17 2 v) 1 (upd a 4 v) := VF_set h (k := 4) (by decide) v
theorem s1_halfCount {μ : PM} {a : Nat → Int32} (h : VF μ 1 a) (v : Int32) : VF (pm_wi μ 1 16 v) 1 (upd a 5 v) := VF_set h (k := 5) (by decide) v
theorem s1_saidCount {μ : PM} {a : Nat → Int32} (h : VF μ 1 a) (v : Int32) : VF (pm_wi μ 1 17 v) 1 (upd a 6 v) := VF_set h (k := 6) (by decide) v
theorem s1_hour {μ : PM} {a : Nat → Int32} (h : VF μ 1 a) (v : Int32) : VF (pm_wi μ 12 9 v) 1 (upd a 7 v) := VF_set h (k := 7) (by decide) v
theorem s1_x {μ : PM} {a : Nat → Int32} (h : VF μ 1 a) (v : Int32) : VF (pm_wi μ 12 10 v) 1 (upd a 8 v) := VF_set h (k := 8) (by decide) v
theorem s1_warm {μ : PM} {a : Nat → Int32} (h : VF μ 1 a) (v : Int32) : VF (pm_wi μ 12 8 v) 1 (upd a 9 v) := VF_set h (k := 9) (by decide) v
theorem s1_stones {μ : PM} {a : Nat → Int32} (h : VF μ 1 a) (v : Int32) : VF (pm_wi μ 12 7 v) 1 (upd a 10 v) := VF_set h (k := 10) (by decide) v
theorem s1_written {μ : PM} {a : Nat → Int32} (h : VF μ 1 a) (v : Int32) : VF (pm_wi μ 12 4 v) 1 (upd a 11 v) := VF_set h (k := 11) (by decide) v
theorem s1_eddies {μ : PM} {a : Nat → Int32} (h : VF μ 1 a) (v : Int32) : VF (pm_wi μ 1 12 v) 1 (upd a 29 v) := VF_set h (k := 29) (by decide) v
theorem s1_quota {μ : PM} {a : Nat → Int32} (h : VF μ 1 a) (v : Int32) : VF (pm_wi μ 1 15 v) 1 (upd a 125 v) := VF_set h (k := 125) (by decide) v
theorem s1_place {μ : PM} {a : Nat → Int32} (h : VF μ 1 a) {n : Nat} (hn : n < 6) (v : Int32) : VF (pm_wi μ 13 n v) 1 (upd a (12 + 2 * n) v) := by
  have := VF_set h (k := 12 + 2 * n) (by omega) v
  rw [vl_place n hn] at this
  exact this
theorem s1_size {μ : PM} {a : Nat → Int32} (h : VF μ 1 a) {n : Nat} (hn : n < 6) (v : Int32) : VF (pm_wi μ 14 n v) 1 (upd a (13 + 2 * n) v) := by
  have := VF_set h (k := 13 + 2 * n) (by omega) v
  rw [vl_size n hn] at this
  exact this
theorem s1_stand {μ : PM} {a : Nat → Int32} (h : VF μ 1 a) {n : Nat} (hn : n < 5) (v : Int32) : VF (pm_wi μ 15 n v) 1 (upd a (24 + n) v) := by
  have := VF_set h (k := 24 + n) (by omega) v
  rw [vl_stand n hn] at this
  exact this
theorem s1_sounds {μ : PM} {a : Nat → Int32} (h : VF μ 1 a) {n : Nat} (hn : n < 6) (v : Int32) : VF (pm_wi μ 2 n v) 1 (upd a (30 + n) v) := by
  have := VF_set h (k := 30 + n) (by omega) v
  rw [vl_sounds n hn] at this
  exact this
theorem s1_layer {μ : PM} {a : Nat → Int32} (h : VF μ 1 a) {n : Nat} (hn : n < 6) (v : Int32) : VF (pm_wi μ 3 n v) 1 (upd a (36 + n) v) := by
  have := VF_set h (k := 36 + n) (by omega) v
  rw [vl_layer n hn] at this
  exact this
theorem s1_net {μ : PM} {a : Nat → Int32} (h : VF μ 1 a) {n : Nat} (hn : n < 5) (v : Int32) : VF (pm_wi μ 4 n v) 1 (upd a (42 + n) v) := by
  have := VF_set h (k := 42 + n) (by omega) v
  rw [vl_net n hn] at this
  exact this
theorem s1_home {μ : PM} {a : Nat → Int32} (h : VF μ 1 a) {n : Nat} (hn : n < 5) (v : Int32) : VF (pm_wi μ 5 n v) 1 (upd a (47 + n) v) := by
  have := VF_set h (k := 47 + n) (by omega) v
  rw [vl_home n hn] at this
  exact this
theorem s1_want {μ : PM} {a : Nat → Int32} (h : VF μ 1 a) {n : Nat} (hn : n < 30) (v : Int32) : VF (pm_wi μ 6 n v) 1 (upd a (52 + n) v) := by
  have := VF_set h (k := 52 + n) (by omega) v
  rw [vl_want n hn] at this
  exact this
theorem s1_favour {μ : PM} {a : Nat → Int32} (h : VF μ 1 a) {n : Nat} (hn : n < 30) (v : Int32) : VF (pm_wi μ 7 n v) 1 (upd a (82 + n) v) := by
  have := VF_set h (k := 82 + n) (by omega) v
  rw [vl_favour n hn] at this
  exact this
theorem s1_given {μ : PM} {a : Nat → Int32} (h : VF μ 1 a) {n : Nat} (hn : n < 5) (v : Int32) : VF (pm_wi μ 8 n v) 1 (upd a (112 + n) v) := by
  have := VF_set h (k := 112 + n) (by omega) v
  rw [vl_given n hn] at this
  exact this
theorem s1_halves {μ : PM} {a : Nat → Int32} (h : VF μ 1 a) {n : Nat} (hn : n < 8) (v : Int32) : VF (pm_wi μ 9 n v) 1 (upd a (117 + n) v) := by
  have := VF_set h (k := 117 + n) (by omega) v
  rw [vl_halves n hn] at this
  exact this
theorem s1_saidName {μ : PM} {a : Nat → Int32} (h : VF μ 1 a) {n : Nat} (hn : n < 8) (v : Int32) : VF (pm_wi μ 10 n v) 1 (upd a (126 + 2 * n) v) := by
  have := VF_set h (k := 126 + 2 * n) (by omega) v
  rw [vl_saidName n hn] at this
  exact this
theorem s1_saidMelts {μ : PM} {a : Nat → Int32} (h : VF μ 1 a) {n : Nat} (hn : n < 8) (v : Int32) : VF (pm_wi μ 11 n v) 1 (upd a (127 + 2 * n) v) := by
  have := VF_set h (k := 127 + 2 * n) (by omega) v
  rw [vl_saidMelts n hn] at this
  exact this
