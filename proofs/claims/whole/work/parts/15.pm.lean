/-! ===== the memory once both objects are made: its shape is fixed; ints and longs change, and the reader's text ===== -/
abbrev PM : Type := (Nat → Nat → Int32) × (Nat → Nat → Int64)
def go_SH0 : List (Nat × Nat) := [(11, 17), (9, 18), (100, 6), (100, 6), (100, 5), (100, 5), (100, 30), (100, 30), (100, 5), (100, 8), (100, 8), (100, 8), (10, 11), (100, 6), (100, 6), (100, 5), (100, 30), (7, 3), (104, 30), (10, 11), (100, 6), (100, 6), (100, 5), (100, 30), (10, 11), (100, 6), (100, 6), (100, 5), (100, 30), (10, 11), (100, 6), (100, 6), (100, 5), (100, 30), (10, 11), (100, 6), (100, 6), (100, 5), (100, 30), (10, 11), (100, 6), (100, 6), (100, 5), (100, 30), (10, 11), (100, 6), (100, 6), (100, 5), (100, 30), (10, 11), (100, 6), (100, 6), (100, 5), (100, 30), (10, 11), (100, 6), (100, 6), (100, 5), (100, 30), (10, 11)]
def go_SH1 : List (Nat × Nat) := [(100, 6), (100, 6), (100, 5), (100, 30), (10, 11), (100, 6), (100, 6), (100, 5), (100, 30), (10, 11), (100, 6), (100, 6), (100, 5), (100, 30), (10, 11), (100, 6), (100, 6), (100, 5), (100, 30), (10, 11), (100, 6), (100, 6), (100, 5), (100, 30), (10, 11), (100, 6), (100, 6), (100, 5), (100, 30), (10, 11), (100, 6), (100, 6), (100, 5), (100, 30), (10, 11), (100, 6), (100, 6), (100, 5), (100, 30), (10, 11), (100, 6), (100, 6), (100, 5), (100, 30), (10, 11), (100, 6), (100, 6), (100, 5), (100, 30), (10, 11), (100, 6), (100, 6), (100, 5), (100, 30), (10, 11), (100, 6), (100, 6), (100, 5), (100, 30), (10, 11)]
def go_SH2 : List (Nat × Nat) := [(100, 6), (100, 6), (100, 5), (100, 30), (10, 11), (100, 6), (100, 6), (100, 5), (100, 30), (10, 11), (100, 6), (100, 6), (100, 5), (100, 30), (10, 11), (100, 6), (100, 6), (100, 5), (100, 30), (10, 11), (100, 6), (100, 6), (100, 5), (100, 30), (10, 11), (100, 6), (100, 6), (100, 5), (100, 30), (10, 11), (100, 6), (100, 6), (100, 5), (100, 30), (10, 11), (100, 6), (100, 6), (100, 5), (100, 30), (10, 11), (100, 6), (100, 6), (100, 5), (100, 30), (10, 11), (100, 6), (100, 6), (100, 5), (100, 30), (9, 18), (100, 6), (100, 6), (100, 5), (100, 5), (100, 30), (100, 30), (100, 5), (100, 8), (100, 8), (100, 8)]
def go_SH3 : List (Nat × Nat) := [(10, 11), (100, 6), (100, 6), (100, 5), (100, 30), (7, 3), (104, 30), (10, 11), (100, 6), (100, 6), (100, 5), (100, 30), (10, 11), (100, 6), (100, 6), (100, 5), (100, 30), (10, 11), (100, 6), (100, 6), (100, 5), (100, 30), (10, 11), (100, 6), (100, 6), (100, 5), (100, 30), (10, 11), (100, 6), (100, 6), (100, 5), (100, 30), (10, 11), (100, 6), (100, 6), (100, 5), (100, 30), (10, 11), (100, 6), (100, 6), (100, 5), (100, 30), (10, 11), (100, 6), (100, 6), (100, 5), (100, 30), (10, 11), (100, 6), (100, 6), (100, 5), (100, 30), (10, 11), (100, 6), (100, 6), (100, 5), (100, 30), (10, 11), (100, 6), (100, 6)]
def go_SH4 : List (Nat × Nat) := [(100, 5), (100, 30), (10, 11), (100, 6), (100, 6), (100, 5), (100, 30), (10, 11), (100, 6), (100, 6), (100, 5), (100, 30), (10, 11), (100, 6), (100, 6), (100, 5), (100, 30), (10, 11), (100, 6), (100, 6), (100, 5), (100, 30), (10, 11), (100, 6), (100, 6), (100, 5), (100, 30), (10, 11), (100, 6), (100, 6), (100, 5), (100, 30), (10, 11), (100, 6), (100, 6), (100, 5), (100, 30), (10, 11), (100, 6), (100, 6), (100, 5), (100, 30), (10, 11), (100, 6), (100, 6), (100, 5), (100, 30), (10, 11), (100, 6), (100, 6), (100, 5), (100, 30), (10, 11), (100, 6), (100, 6), (100, 5), (100, 30), (10, 11), (100, 6), (100, 6)]
def go_SH5 : List (Nat × Nat) := [(100, 5), (100, 30), (10, 11), (100, 6), (100, 6), (100, 5), (100, 30), (10, 11), (100, 6), (100, 6), (100, 5), (100, 30), (10, 11), (100, 6), (100, 6), (100, 5), (100, 30), (10, 11), (100, 6), (100, 6), (100, 5), (100, 30), (10, 11), (100, 6), (100, 6), (100, 5), (100, 30), (10, 11), (100, 6), (100, 6), (100, 5), (100, 30), (10, 11), (100, 6), (100, 6), (100, 5), (100, 30), (10, 11), (100, 6), (100, 6), (100, 5), (100, 30), (103, 4), (8, 8), (100, 24), (100, 24), (100, 24), (100, 3), (100, 320), (100, 320), (8, 8), (100, 24), (100, 24), (100, 24), (100, 3), (100, 320), (100, 320), (8, 8), (100, 24), (100, 24)]
def go_SH6 : List (Nat × Nat) := [(100, 24), (100, 3), (100, 320), (100, 320), (8, 8), (100, 24), (100, 24), (100, 24), (100, 3), (100, 320), (100, 320), (100, 300), (6, 10), (100, 301), (100, 301), (100, 301), (8, 8), (100, 24), (100, 24), (100, 24), (100, 3), (100, 320), (100, 320), (2, 3), (100, 9), (100, 96), (0, 2), (4, 7), (100, 5), (100, 6), (100, 6), (100, 5), (100, 5), (100, 5), (1, 5), (100, 64), (100, 256), (100, 4), (3, 1), (5, 3), (100, 10), (12, 29), (100, 1792), (100, 1792), (100, 2724), (100, 300), (100, 160), (100, 9), (101, 330), (102, 330), (100, 29), (100, 5), (100, 6), (100, 256)]
def go_SH : List (Nat × Nat) := go_SH0 ++ (go_SH1 ++ (go_SH2 ++ (go_SH3 ++ (go_SH4 ++ (go_SH5 ++ (go_SH6))))))
def go_RT0 : List (List (Option Nat)) := [[some 1, some 12, some 169, some 337, some 342, some 371, some 372, some 383, some 386, some 387, some 394, some 398, some 399], [some 2, some 3, some 4, some 5, some 6, some 7, some 8, some 9, some 10, some 11, some 12, some 17], [], [], [], [], [], [], [], [], [], [], [some 13, some 14, some 15, some 16], [], [], [], [], [some 18], [some 19, some 24, some 29, some 34, some 39, some 44, some 49, some 54, some 59, some 64, some 69, some 74, some 79, some 84, some 89, some 94, some 99, some 104, some 109, some 114, some 119, some 124, some 129, some 134, some 139, some 144, some 149, some 154, some 159, some 164], [some 20, some 21, some 22, some 23], [], [], [], [], [some 25, some 26, some 27, some 28], [], [], [], [], [some 30, some 31, some 32, some 33], [], [], [], [], [some 35, some 36, some 37, some 38], [], [], [], [], [some 40, some 41, some 42, some 43], [], [], [], [], [some 45, some 46, some 47, some 48], [], [], [], [], [some 50, some 51, some 52, some 53], [], [], [], [], [some 55, some 56, some 57, some 58], [], [], [], [], [some 60, some 61, some 62, some 63]]
def go_RT1 : List (List (Option Nat)) := [[], [], [], [], [some 65, some 66, some 67, some 68], [], [], [], [], [some 70, some 71, some 72, some 73], [], [], [], [], [some 75, some 76, some 77, some 78], [], [], [], [], [some 80, some 81, some 82, some 83], [], [], [], [], [some 85, some 86, some 87, some 88], [], [], [], [], [some 90, some 91, some 92, some 93], [], [], [], [], [some 95, some 96, some 97, some 98], [], [], [], [], [some 100, some 101, some 102, some 103], [], [], [], [], [some 105, some 106, some 107, some 108], [], [], [], [], [some 110, some 111, some 112, some 113], [], [], [], [], [some 115, some 116, some 117, some 118], [], [], [], [], [some 120, some 121, some 122, some 123]]
def go_RT2 : List (List (Option Nat)) := [[], [], [], [], [some 125, some 126, some 127, some 128], [], [], [], [], [some 130, some 131, some 132, some 133], [], [], [], [], [some 135, some 136, some 137, some 138], [], [], [], [], [some 140, some 141, some 142, some 143], [], [], [], [], [some 145, some 146, some 147, some 148], [], [], [], [], [some 150, some 151, some 152, some 153], [], [], [], [], [some 155, some 156, some 157, some 158], [], [], [], [], [some 160, some 161, some 162, some 163], [], [], [], [], [some 165, some 166, some 167, some 168], [], [], [], [], [some 170, some 171, some 172, some 173, some 174, some 175, some 176, some 177, some 178, some 179, some 180, some 185], [], [], [], [], [], [], [], [], [], []]
def go_RT3 : List (List (Option Nat)) := [[some 181, some 182, some 183, some 184], [], [], [], [], [some 186], [some 187, some 192, some 197, some 202, some 207, some 212, some 217, some 222, some 227, some 232, some 237, some 242, some 247, some 252, some 257, some 262, some 267, some 272, some 277, some 282, some 287, some 292, some 297, some 302, some 307, some 312, some 317, some 322, some 327, some 332], [some 188, some 189, some 190, some 191], [], [], [], [], [some 193, some 194, some 195, some 196], [], [], [], [], [some 198, some 199, some 200, some 201], [], [], [], [], [some 203, some 204, some 205, some 206], [], [], [], [], [some 208, some 209, some 210, some 211], [], [], [], [], [some 213, some 214, some 215, some 216], [], [], [], [], [some 218, some 219, some 220, some 221], [], [], [], [], [some 223, some 224, some 225, some 226], [], [], [], [], [some 228, some 229, some 230, some 231], [], [], [], [], [some 233, some 234, some 235, some 236], [], [], [], [], [some 238, some 239, some 240, some 241], [], []]
def go_RT4 : List (List (Option Nat)) := [[], [], [some 243, some 244, some 245, some 246], [], [], [], [], [some 248, some 249, some 250, some 251], [], [], [], [], [some 253, some 254, some 255, some 256], [], [], [], [], [some 258, some 259, some 260, some 261], [], [], [], [], [some 263, some 264, some 265, some 266], [], [], [], [], [some 268, some 269, some 270, some 271], [], [], [], [], [some 273, some 274, some 275, some 276], [], [], [], [], [some 278, some 279, some 280, some 281], [], [], [], [], [some 283, some 284, some 285, some 286], [], [], [], [], [some 288, some 289, some 290, some 291], [], [], [], [], [some 293, some 294, some 295, some 296], [], [], [], [], [some 298, some 299, some 300, some 301], [], []]
def go_RT5 : List (List (Option Nat)) := [[], [], [some 303, some 304, some 305, some 306], [], [], [], [], [some 308, some 309, some 310, some 311], [], [], [], [], [some 313, some 314, some 315, some 316], [], [], [], [], [some 318, some 319, some 320, some 321], [], [], [], [], [some 323, some 324, some 325, some 326], [], [], [], [], [some 328, some 329, some 330, some 331], [], [], [], [], [some 333, some 334, some 335, some 336], [], [], [], [], [some 338, some 339, some 340, some 341], [], [], [], [], [some 343, some 350, some 357, some 364], [some 344, some 345, some 346, some 347, some 348, some 349], [], [], [], [], [], [], [some 351, some 352, some 353, some 354, some 355, some 356], [], [], [], [], [], [], [some 358, some 359, some 360, some 361, some 362, some 363], [], []]
def go_RT6 : List (List (Option Nat)) := [[], [], [], [], [some 365, some 366, some 367, some 368, some 369, some 370], [], [], [], [], [], [], [], [some 371, some 373, some 374, some 375, some 376], [], [], [], [some 377, some 378, some 379, some 380, some 381, some 382], [], [], [], [], [], [], [some 1, some 384, some 385], [], [], [some 1, some 383], [some 1, some 388, some 389, some 390, some 391, some 392, some 393], [], [], [], [], [], [], [some 1, some 395, some 396, some 397], [], [], [], [some 1], [some 383, none, some 400], [], [some 402, some 403, some 404, some 405, none, none, none, none, none, none, none, none, none, none, none, some 406, none, none, none, none, some 407, some 408, some 409, none, none, some 410, some 411, some 412, some 413], [], [], [], [], [], [], [], [], [], [], [], []]
def go_RT : List (List (Option Nat)) := go_RT0 ++ (go_RT1 ++ (go_RT2 ++ (go_RT3 ++ (go_RT4 ++ (go_RT5 ++ (go_RT6))))))
def go_RF (tx : Nat) (c j : Nat) : Option Nat := if c = 372 ∧ j = 4 then some tx else (go_RT.getD c []).getD j none
def go_mk (tx : Nat) (μ : PM) : go_M := (go_SH, μ.1, μ.2, go_RF tx)
def pm_wi (μ : PM) (c i : Nat) (v : Int32) : PM := (va_up μ.1 c (upd (μ.1 c) i v), μ.2)
def pm_wl (μ : PM) (c i : Nat) (v : Int64) : PM := (μ.1, va_up μ.2 c (vp_updL (μ.2 c) i v))
def pm_cp (μ : PM) (a b sp dp n : Nat) : PM := (va_up μ.1 b (va_cpy (μ.1 a) (μ.1 b) sp dp n), μ.2)
def go_on : Option Nat → Value
  | none => .null
  | some q => .ref q
def go_ln (c : Nat) : Nat := ((go_SH[c]?).map (·.2)).getD 0
/-- a Water, a Text, a Steps, a Valley of that memory -/
def go_isW (q : Nat) : Prop := go_SH[q]? = some (10, 11) ∧ go_SH[q + 1]? = some (100, 6) ∧ go_SH[q + 2]? = some (100, 6) ∧ go_SH[q + 3]? = some (100, 5) ∧ go_SH[q + 4]? = some (100, 30) ∧ (go_RT.getD q []).getD 0 none = some (q + 1) ∧ (go_RT.getD q []).getD 1 none = some (q + 2) ∧ (go_RT.getD q []).getD 2 none = some (q + 3) ∧ (go_RT.getD q []).getD 3 none = some (q + 4) ∧ q ≠ 372
def go_isT (q : Nat) : Prop := go_SH[q]? = some (8, 8) ∧ go_SH[q + 1]? = some (100, 24) ∧ go_SH[q + 2]? = some (100, 24) ∧ go_SH[q + 3]? = some (100, 24) ∧ go_SH[q + 4]? = some (100, 3) ∧ go_SH[q + 5]? = some (100, 320) ∧ go_SH[q + 6]? = some (100, 320) ∧ (go_RT.getD q []).getD 0 none = some (q + 1) ∧ (go_RT.getD q []).getD 1 none = some (q + 2) ∧ (go_RT.getD q []).getD 2 none = some (q + 3) ∧ (go_RT.getD q []).getD 3 none = some (q + 4) ∧ (go_RT.getD q []).getD 4 none = some (q + 5) ∧ (go_RT.getD q []).getD 5 none = some (q + 6) ∧ q ≠ 372
def go_isS (q : Nat) : Prop := go_SH[q]? = some (7, 3) ∧ go_SH[q + 1]? = some (104, 30) ∧ (go_RT.getD q []).getD 0 none = some (q + 1) ∧ q ≠ 372 ∧ q + 1 ≠ 372 ∧ ∀ i, i < 30 → (go_RT.getD (q + 1) []).getD i none = some (q + 2 + 5 * i) ∧ go_isW (q + 2 + 5 * i)
def go_isV (q : Nat) : Prop := go_SH[q]? = some (9, 18) ∧ go_isW (q + 11) ∧ go_isS (q + 16) ∧ go_SH[q + 1]? = some (100, 6) ∧ go_SH[q + 2]? = some (100, 6) ∧ go_SH[q + 3]? = some (100, 5) ∧ go_SH[q + 4]? = some (100, 5) ∧ go_SH[q + 5]? = some (100, 30) ∧ go_SH[q + 6]? = some (100, 30) ∧ go_SH[q + 7]? = some (100, 5) ∧ go_SH[q + 8]? = some (100, 8) ∧ go_SH[q + 9]? = some (100, 8) ∧ go_SH[q + 10]? = some (100, 8) ∧ (∀ j, j < 11 → (go_RT.getD q []).getD j none = some (q + 1 + j)) ∧ (go_RT.getD q []).getD 11 none = some (q + 16) ∧ q ≠ 372
theorem go_RF_ne {tx c j : Nat} {r : Option Nat} (h : c ≠ 372) (hr : (go_RT.getD c []).getD j none = r) : go_RF tx c j = r := by
  unfold go_RF
  rw [if_neg (fun q => h q.1)]
  exact hr
theorem go_RF_tx {tx : Nat} : go_RF tx 372 4 = some tx := if_pos ⟨rfl, rfl⟩
set_option maxRecDepth 20000 in
theorem go_isW_all : ∀ q ∈ [12, 19, 24, 29, 34, 39, 44, 49, 54, 59, 64, 69, 74, 79, 84, 89, 94, 99, 104, 109, 114, 119, 124, 129, 134, 139, 144, 149, 154, 159, 164, 180, 187, 192, 197, 202, 207, 212, 217, 222, 227, 232, 237, 242, 247, 252, 257, 262, 267, 272, 277, 282, 287, 292, 297, 302, 307, 312, 317, 322, 327, 332, 337], go_isW q := by unfold go_isW; decide +kernel
set_option maxRecDepth 20000 in
theorem go_isT_all : ∀ q ∈ [343, 350, 357, 364, 376], go_isT q := by unfold go_isT; decide +kernel
theorem go_isW_12 : go_isW 12 := go_isW_all 12 (by decide)
theorem go_isW_337 : go_isW 337 := go_isW_all 337 (by decide)
theorem go_isT_343 : go_isT 343 := go_isT_all 343 (by decide)
theorem go_isT_350 : go_isT 350 := go_isT_all 350 (by decide)
theorem go_isT_357 : go_isT 357 := go_isT_all 357 (by decide)
theorem go_isT_364 : go_isT 364 := go_isT_all 364 (by decide)
theorem go_isT_376 : go_isT 376 := go_isT_all 376 (by decide)
set_option maxRecDepth 20000 in
theorem go_isS_17 : go_isS 17 := by
  refine ⟨by decide +kernel, by decide +kernel, by decide +kernel, by decide, by decide, fun i hi => ⟨?_, go_isW_all _ ?_⟩⟩
  · revert i; decide +kernel
  · revert i; decide +kernel
theorem go_isV_1 : go_isV 1 := ⟨by decide +kernel, go_isW_all _ (by decide), go_isS_17, by decide +kernel, by decide +kernel, by decide +kernel, by decide +kernel, by decide +kernel, by decide +kernel, by decide +kernel, by decide +kernel, by decide +kernel, by decide +kernel, by decide +kernel, by decide +kernel, by decide⟩
set_option maxRecDepth 20000 in
theorem go_isS_185 : go_isS 185 := by
  refine ⟨by decide +kernel, by decide +kernel, by decide +kernel, by decide, by decide, fun i hi => ⟨?_, go_isW_all _ ?_⟩⟩
  · revert i; decide +kernel
  · revert i; decide +kernel
theorem go_isV_169 : go_isV 169 := ⟨by decide +kernel, go_isW_all _ (by decide), go_isS_185, by decide +kernel, by decide +kernel, by decide +kernel, by decide +kernel, by decide +kernel, by decide +kernel, by decide +kernel, by decide +kernel, by decide +kernel, by decide +kernel, by decide +kernel, by decide +kernel, by decide⟩
theorem sh_0 : go_SH[0]? = some (11, 17) := by decide +kernel
theorem sh_2 : go_SH[2]? = some (100, 6) := by decide +kernel
theorem sh_3 : go_SH[3]? = some (100, 6) := by decide +kernel
theorem sh_4 : go_SH[4]? = some (100, 5) := by decide +kernel
theorem sh_5 : go_SH[5]? = some (100, 5) := by decide +kernel
theorem sh_6 : go_SH[6]? = some (100, 30) := by decide +kernel
theorem sh_7 : go_SH[7]? = some (100, 30) := by decide +kernel
theorem sh_8 : go_SH[8]? = some (100, 5) := by decide +kernel
theorem sh_9 : go_SH[9]? = some (100, 8) := by decide +kernel
theorem sh_10 : go_SH[10]? = some (100, 8) := by decide +kernel
theorem sh_11 : go_SH[11]? = some (100, 8) := by decide +kernel
theorem sh_13 : go_SH[13]? = some (100, 6) := by decide +kernel
theorem sh_14 : go_SH[14]? = some (100, 6) := by decide +kernel
theorem sh_15 : go_SH[15]? = some (100, 5) := by decide +kernel
theorem sh_16 : go_SH[16]? = some (100, 30) := by decide +kernel
theorem sh_338 : go_SH[338]? = some (100, 6) := by decide +kernel
theorem sh_339 : go_SH[339]? = some (100, 6) := by decide +kernel
theorem sh_340 : go_SH[340]? = some (100, 5) := by decide +kernel
theorem sh_341 : go_SH[341]? = some (100, 30) := by decide +kernel
theorem sh_342 : go_SH[342]? = some (103, 4) := by decide +kernel
theorem sh_371 : go_SH[371]? = some (100, 300) := by decide +kernel
theorem sh_372 : go_SH[372]? = some (6, 10) := by decide +kernel
theorem sh_373 : go_SH[373]? = some (100, 301) := by decide +kernel
theorem sh_374 : go_SH[374]? = some (100, 301) := by decide +kernel
theorem sh_375 : go_SH[375]? = some (100, 301) := by decide +kernel
theorem sh_383 : go_SH[383]? = some (2, 3) := by decide +kernel
theorem sh_384 : go_SH[384]? = some (100, 9) := by decide +kernel
theorem sh_385 : go_SH[385]? = some (100, 96) := by decide +kernel
theorem sh_386 : go_SH[386]? = some (0, 2) := by decide +kernel
theorem sh_387 : go_SH[387]? = some (4, 7) := by decide +kernel
theorem sh_388 : go_SH[388]? = some (100, 5) := by decide +kernel
theorem sh_389 : go_SH[389]? = some (100, 6) := by decide +kernel
theorem sh_390 : go_SH[390]? = some (100, 6) := by decide +kernel
theorem sh_391 : go_SH[391]? = some (100, 5) := by decide +kernel
theorem sh_392 : go_SH[392]? = some (100, 5) := by decide +kernel
theorem sh_393 : go_SH[393]? = some (100, 5) := by decide +kernel
theorem sh_394 : go_SH[394]? = some (1, 5) := by decide +kernel
theorem sh_395 : go_SH[395]? = some (100, 64) := by decide +kernel
theorem sh_396 : go_SH[396]? = some (100, 256) := by decide +kernel
theorem sh_397 : go_SH[397]? = some (100, 4) := by decide +kernel
theorem sh_398 : go_SH[398]? = some (3, 1) := by decide +kernel
theorem sh_399 : go_SH[399]? = some (5, 3) := by decide +kernel
theorem sh_400 : go_SH[400]? = some (100, 10) := by decide +kernel
theorem sh_401 : go_SH[401]? = some (12, 29) := by decide +kernel
theorem sh_402 : go_SH[402]? = some (100, 1792) := by decide +kernel
theorem sh_403 : go_SH[403]? = some (100, 1792) := by decide +kernel
theorem sh_404 : go_SH[404]? = some (100, 2724) := by decide +kernel
theorem sh_405 : go_SH[405]? = some (100, 300) := by decide +kernel
theorem sh_406 : go_SH[406]? = some (100, 160) := by decide +kernel
theorem sh_407 : go_SH[407]? = some (100, 9) := by decide +kernel
theorem sh_408 : go_SH[408]? = some (101, 330) := by decide +kernel
theorem sh_409 : go_SH[409]? = some (102, 330) := by decide +kernel
theorem sh_410 : go_SH[410]? = some (100, 29) := by decide +kernel
theorem sh_411 : go_SH[411]? = some (100, 5) := by decide +kernel
theorem sh_412 : go_SH[412]? = some (100, 6) := by decide +kernel
theorem sh_413 : go_SH[413]? = some (100, 256) := by decide +kernel
theorem sh_1 : go_SH[1]? = some (9, 18) := by decide +kernel
theorem sh_12 : go_SH[12]? = some (10, 11) := by decide +kernel
theorem sh_17 : go_SH[17]? = some (7, 3) := by decide +kernel
theorem sh_169 : go_SH[169]? = some (9, 18) := by decide +kernel
theorem sh_337 : go_SH[337]? = some (10, 11) := by decide +kernel
theorem rf_0_0 {tx : Nat} : go_RF tx 0 0 = some 1 := go_RF_ne (by decide) (by decide +kernel)
theorem rf_0_1 {tx : Nat} : go_RF tx 0 1 = some 12 := go_RF_ne (by decide) (by decide +kernel)
theorem rf_0_2 {tx : Nat} : go_RF tx 0 2 = some 169 := go_RF_ne (by decide) (by decide +kernel)
theorem rf_0_3 {tx : Nat} : go_RF tx 0 3 = some 337 := go_RF_ne (by decide) (by decide +kernel)
theorem rf_0_4 {tx : Nat} : go_RF tx 0 4 = some 342 := go_RF_ne (by decide) (by decide +kernel)
theorem rf_0_5 {tx : Nat} : go_RF tx 0 5 = some 371 := go_RF_ne (by decide) (by decide +kernel)
theorem rf_0_6 {tx : Nat} : go_RF tx 0 6 = some 372 := go_RF_ne (by decide) (by decide +kernel)
theorem rf_0_7 {tx : Nat} : go_RF tx 0 7 = some 383 := go_RF_ne (by decide) (by decide +kernel)
theorem rf_0_8 {tx : Nat} : go_RF tx 0 8 = some 386 := go_RF_ne (by decide) (by decide +kernel)
theorem rf_0_9 {tx : Nat} : go_RF tx 0 9 = some 387 := go_RF_ne (by decide) (by decide +kernel)
theorem rf_0_10 {tx : Nat} : go_RF tx 0 10 = some 394 := go_RF_ne (by decide) (by decide +kernel)
theorem rf_0_11 {tx : Nat} : go_RF tx 0 11 = some 398 := go_RF_ne (by decide) (by decide +kernel)
theorem rf_0_12 {tx : Nat} : go_RF tx 0 12 = some 399 := go_RF_ne (by decide) (by decide +kernel)
theorem rf_1_0 {tx : Nat} : go_RF tx 1 0 = some 2 := go_RF_ne (by decide) (by decide +kernel)
theorem rf_1_1 {tx : Nat} : go_RF tx 1 1 = some 3 := go_RF_ne (by decide) (by decide +kernel)
theorem rf_1_2 {tx : Nat} : go_RF tx 1 2 = some 4 := go_RF_ne (by decide) (by decide +kernel)
theorem rf_1_3 {tx : Nat} : go_RF tx 1 3 = some 5 := go_RF_ne (by decide) (by decide +kernel)
theorem rf_1_4 {tx : Nat} : go_RF tx 1 4 = some 6 := go_RF_ne (by decide) (by decide +kernel)
theorem rf_1_5 {tx : Nat} : go_RF tx 1 5 = some 7 := go_RF_ne (by decide) (by decide +kernel)
theorem rf_1_6 {tx : Nat} : go_RF tx 1 6 = some 8 := go_RF_ne (by decide) (by decide +kernel)
theorem rf_1_7 {tx : Nat} : go_RF tx 1 7 = some 9 := go_RF_ne (by decide) (by decide +kernel)
theorem rf_1_8 {tx : Nat} : go_RF tx 1 8 = some 10 := go_RF_ne (by decide) (by decide +kernel)
theorem rf_1_9 {tx : Nat} : go_RF tx 1 9 = some 11 := go_RF_ne (by decide) (by decide +kernel)
theorem rf_1_10 {tx : Nat} : go_RF tx 1 10 = some 12 := go_RF_ne (by decide) (by decide +kernel)
theorem rf_1_11 {tx : Nat} : go_RF tx 1 11 = some 17 := go_RF_ne (by decide) (by decide +kernel)
theorem rf_12_0 {tx : Nat} : go_RF tx 12 0 = some 13 := go_RF_ne (by decide) (by decide +kernel)
theorem rf_12_1 {tx : Nat} : go_RF tx 12 1 = some 14 := go_RF_ne (by decide) (by decide +kernel)
theorem rf_12_2 {tx : Nat} : go_RF tx 12 2 = some 15 := go_RF_ne (by decide) (by decide +kernel)
theorem rf_12_3 {tx : Nat} : go_RF tx 12 3 = some 16 := go_RF_ne (by decide) (by decide +kernel)
theorem rf_17_0 {tx : Nat} : go_RF tx 17 0 = some 18 := go_RF_ne (by decide) (by decide +kernel)
theorem rf_372_0 {tx : Nat} : go_RF tx 372 0 = some 371 := by unfold go_RF; rw [if_neg (by decide)]; decide +kernel
theorem rf_372_1 {tx : Nat} : go_RF tx 372 1 = some 373 := by unfold go_RF; rw [if_neg (by decide)]; decide +kernel
theorem rf_372_2 {tx : Nat} : go_RF tx 372 2 = some 374 := by unfold go_RF; rw [if_neg (by decide)]; decide +kernel
theorem rf_372_3 {tx : Nat} : go_RF tx 372 3 = some 375 := by unfold go_RF; rw [if_neg (by decide)]; decide +kernel
theorem rf_383_0 {tx : Nat} : go_RF tx 383 0 = some 1 := go_RF_ne (by decide) (by decide +kernel)
theorem rf_383_1 {tx : Nat} : go_RF tx 383 1 = some 384 := go_RF_ne (by decide) (by decide +kernel)
theorem rf_383_2 {tx : Nat} : go_RF tx 383 2 = some 385 := go_RF_ne (by decide) (by decide +kernel)
theorem rf_386_0 {tx : Nat} : go_RF tx 386 0 = some 1 := go_RF_ne (by decide) (by decide +kernel)
theorem rf_386_1 {tx : Nat} : go_RF tx 386 1 = some 383 := go_RF_ne (by decide) (by decide +kernel)
theorem rf_387_0 {tx : Nat} : go_RF tx 387 0 = some 1 := go_RF_ne (by decide) (by decide +kernel)
theorem rf_387_1 {tx : Nat} : go_RF tx 387 1 = some 388 := go_RF_ne (by decide) (by decide +kernel)
theorem rf_387_2 {tx : Nat} : go_RF tx 387 2 = some 389 := go_RF_ne (by decide) (by decide +kernel)
theorem rf_387_3 {tx : Nat} : go_RF tx 387 3 = some 390 := go_RF_ne (by decide) (by decide +kernel)
theorem rf_387_4 {tx : Nat} : go_RF tx 387 4 = some 391 := go_RF_ne (by decide) (by decide +kernel)
theorem rf_387_5 {tx : Nat} : go_RF tx 387 5 = some 392 := go_RF_ne (by decide) (by decide +kernel)
theorem rf_387_6 {tx : Nat} : go_RF tx 387 6 = some 393 := go_RF_ne (by decide) (by decide +kernel)
theorem rf_394_0 {tx : Nat} : go_RF tx 394 0 = some 1 := go_RF_ne (by decide) (by decide +kernel)
theorem rf_394_1 {tx : Nat} : go_RF tx 394 1 = some 395 := go_RF_ne (by decide) (by decide +kernel)
theorem rf_394_2 {tx : Nat} : go_RF tx 394 2 = some 396 := go_RF_ne (by decide) (by decide +kernel)
theorem rf_394_3 {tx : Nat} : go_RF tx 394 3 = some 397 := go_RF_ne (by decide) (by decide +kernel)
theorem rf_398_0 {tx : Nat} : go_RF tx 398 0 = some 1 := go_RF_ne (by decide) (by decide +kernel)
theorem rf_399_0 {tx : Nat} : go_RF tx 399 0 = some 383 := go_RF_ne (by decide) (by decide +kernel)
theorem rf_399_2 {tx : Nat} : go_RF tx 399 2 = some 400 := go_RF_ne (by decide) (by decide +kernel)
theorem rf_401_0 {tx : Nat} : go_RF tx 401 0 = some 402 := go_RF_ne (by decide) (by decide +kernel)
theorem rf_401_1 {tx : Nat} : go_RF tx 401 1 = some 403 := go_RF_ne (by decide) (by decide +kernel)
theorem rf_401_2 {tx : Nat} : go_RF tx 401 2 = some 404 := go_RF_ne (by decide) (by decide +kernel)
theorem rf_401_3 {tx : Nat} : go_RF tx 401 3 = some 405 := go_RF_ne (by decide) (by decide +kernel)
theorem rf_401_15 {tx : Nat} : go_RF tx 401 15 = some 406 := go_RF_ne (by decide) (by decide +kernel)
theorem rf_401_20 {tx : Nat} : go_RF tx 401 20 = some 407 := go_RF_ne (by decide) (by decide +kernel)
theorem rf_401_21 {tx : Nat} : go_RF tx 401 21 = some 408 := go_RF_ne (by decide) (by decide +kernel)
theorem rf_401_22 {tx : Nat} : go_RF tx 401 22 = some 409 := go_RF_ne (by decide) (by decide +kernel)
theorem rf_401_25 {tx : Nat} : go_RF tx 401 25 = some 410 := go_RF_ne (by decide) (by decide +kernel)
theorem rf_401_26 {tx : Nat} : go_RF tx 401 26 = some 411 := go_RF_ne (by decide) (by decide +kernel)
theorem rf_401_27 {tx : Nat} : go_RF tx 401 27 = some 412 := go_RF_ne (by decide) (by decide +kernel)
theorem rf_401_28 {tx : Nat} : go_RF tx 401 28 = some 413 := go_RF_ne (by decide) (by decide +kernel)
theorem rf_342 {tx : Nat} : ∀ i, i < 4 → go_RF tx 342 i = some (343 + 7 * i) ∧ go_isT (343 + 7 * i) := fun i hi => ⟨go_RF_ne (by decide) (by revert i; decide +kernel), go_isT_all _ (by revert i; decide +kernel)⟩
theorem go_SH_len : go_SH.length = 414 := by decide +kernel

def go_let {α β : Type} (e : α) (f : α → β) : β := f e
theorem go_let_e {α β : Type} {e : α} {f : α → β} {r : β} (h : go_let e f = r) : ∃ x, x = e ∧ f x = r := ⟨e, rfl, h⟩
theorem go_ifp {c : Prop} [Decidable c] {α : Type} {A B r : α} (hc : c) (h : (if c then A else B) = r) : A = r := by rw [if_pos hc] at h; exact h
theorem go_ifn {c : Prop} [Decidable c] {α : Type} {A B r : α} (hc : ¬ c) (h : (if c then A else B) = r) : B = r := by rw [if_neg hc] at h; exact h
def go_chk {α : Type} (i : Int32) (n : Nat) (A : Option α) : Option α := if 0 ≤ i.toInt ∧ i.toInt < n then A else none
theorem go_chk_e {α : Type} {i : Int32} {n : Nat} {A : Option α} {r : α} (h : go_chk i n A = some r) : vp_in i n ∧ A = some r := by
  unfold go_chk at h
  by_cases hc : 0 ≤ i.toInt ∧ i.toInt < n
  · rw [if_pos hc] at h
    exact ⟨vp_in_iff.mpr hc, h⟩
  · rw [if_neg hc] at h
    cases h
theorem go_bind {α β : Type} {o : Option α} {f : α → Option β} {r : β} (h : o.bind f = some r) : ∃ x, o = some x ∧ f x = some r := Option.bind_eq_some_iff.mp h
def lp {σ ρ : Type} (f : σ → Option (σ ⊕ ρ)) : Nat → σ → Option ρ
  | 0, _ => none
  | n + 1, s => match f s with
    | none => none
    | some (.inl s') => lp f n s'
    | some (.inr r) => some r
def go_out {σ ρ : Type} (G : σ → Prop) (E : ρ → Prop) : σ ⊕ ρ → Prop
  | .inl s => G s
  | .inr r => E r
theorem go_lp {σ ρ : Type} {f : σ → Option (σ ⊕ ρ)} {G : σ → Prop} {E : ρ → Prop} (hb : ∀ s out, f s = some out → go_out G E out → G s) : ∀ n s r, lp f n s = some r → E r → G s := by
  intro n
  induction n with
  | zero => intro s r h; cases h
  | succ n ih =>
    intro s r h hE
    cases hf : f s with
    | none => rw [lp, hf] at h; cases h
    | some o =>
      cases o with
      | inl s' => rw [lp, hf] at h; exact hb s _ hf (ih s' r h hE)
      | inr r' => rw [lp, hf] at h; cases h; exact hb s _ hf hE
def go_fuel : Nat := 100000
section PMr
variable {w : go_Wd} {d bc bs tx : Nat} {m : go_Mt} {pc : Nat} {lv : List (Nat × Value)} {st : List Value} {μ μ1 : PM} {Z : go_ZT}
theorem pp_getI {c ci n idx j : Nat} {ty : FieldType} {fin : Bool} (hd : decode m.2.2.1 pc = .ok (.getfield idx, 3)) (hF : go_F m.1 idx ci j ty fin) (hty : ty = .int ∨ ty = .boolean) (hk : go_SH[c]? = some (ci, n)) (k : Go w d bc bs m (pc + 3) lv (.int (μ.1 c j) :: st) (go_mk tx μ) Z) : Go w d bc bs m pc lv (.ref c :: st) (go_mk tx μ) Z := go_getI hd hF hty hk k
theorem pp_getL {c ci n idx j : Nat} {fin : Bool} (hd : decode m.2.2.1 pc = .ok (.getfield idx, 3)) (hF : go_F m.1 idx ci j .long fin) (hk : go_SH[c]? = some (ci, n)) (k : Go w d bc bs m (pc + 3) lv (.long (μ.2 c j) :: st) (go_mk tx μ) Z) : Go w d bc bs m pc lv (.ref c :: st) (go_mk tx μ) Z := go_getL hd hF hk k
theorem pp_getR {c ci n idx j q : Nat} {ty : FieldType} {fin : Bool} (hd : decode m.2.2.1 pc = .ok (.getfield idx, 3)) (hF : go_F m.1 idx ci j ty fin) (hty : (∃ x, ty = .object x) ∨ ∃ x, ty = .array x) (hk : go_SH[c]? = some (ci, n)) (hv : go_RF tx c j = some q) (k : Go w d bc bs m (pc + 3) lv (.ref q :: st) (go_mk tx μ) Z) : Go w d bc bs m pc lv (.ref c :: st) (go_mk tx μ) Z := go_getR hd hF hty hk hv k
theorem pp_putI {c ci n idx j : Nat} {x : Int32} {ty : FieldType} (hd : decode m.2.2.1 pc = .ok (.putfield idx, 3)) (hF : go_F m.1 idx ci j ty false) (hty : ty = .int ∨ (ty = .boolean ∧ (x = 0 ∨ x = 1))) (hk : go_SH[c]? = some (ci, n)) (hμ : μ1 = pm_wi μ c j x) (k : Go w d bc bs m (pc + 3) lv st (go_mk tx μ1) Z) : Go w d bc bs m pc lv (.int x :: .ref c :: st) (go_mk tx μ) Z := by
  subst hμ
  exact go_putI hd hF hty hk k
theorem pp_putL {c ci n idx j : Nat} {x : Int64} (hd : decode m.2.2.1 pc = .ok (.putfield idx, 3)) (hF : go_F m.1 idx ci j .long false) (hk : go_SH[c]? = some (ci, n)) (hμ : μ1 = pm_wl μ c j x) (k : Go w d bc bs m (pc + 3) lv st (go_mk tx μ1) Z) : Go w d bc bs m pc lv (.long x :: .ref c :: st) (go_mk tx μ) Z := by
  subst hμ
  exact go_putL hd hF hk k
theorem pp_ild {c n : Nat} {i : Int32} (hd : decode m.2.2.1 pc = .ok (.iaload, 1)) (hk : go_SH[c]? = some (100, n)) (hin : vp_in i n) (k : Go w d bc bs m (pc + 1) lv (.int (μ.1 c i.toNatClampNeg) :: st) (go_mk tx μ) Z) : Go w d bc bs m pc lv (.int i :: .ref c :: st) (go_mk tx μ) Z := go_ild hd hk hin k
theorem pp_in {i : Int32} {n q : Nat} (h : (decide (0 ≤ i) && (i.toNatClampNeg == q) && decide (q < n)) = true) : vp_in i n ∧ i.toNatClampNeg = q := by
  simp only [Bool.and_eq_true, decide_eq_true_eq, beq_iff_eq] at h
  obtain ⟨⟨h1, h2⟩, h3⟩ := h
  refine ⟨fun hh => ?_, h2⟩
  rcases hh with hh | hh
  · exact absurd hh (Int32.not_lt.mpr h1)
  · omega
theorem pp_ildc {c n q : Nat} {i : Int32} (hd : decode m.2.2.1 pc = .ok (.iaload, 1)) (hk : go_SH[c]? = some (100, n)) (hq : (decide (0 ≤ i) && (i.toNatClampNeg == q) && decide (q < n)) = true) (k : Go w d bc bs m (pc + 1) lv (.int (μ.1 c q) :: st) (go_mk tx μ) Z) : Go w d bc bs m pc lv (.int i :: .ref c :: st) (go_mk tx μ) Z := by
  obtain ⟨h1, h2⟩ := pp_in hq
  subst h2
  exact go_ild hd hk h1 k
theorem pp_lld {c n : Nat} {i : Int32} (hd : decode m.2.2.1 pc = .ok (.laload, 1)) (hk : go_SH[c]? = some (101, n)) (hin : vp_in i n) (k : Go w d bc bs m (pc + 1) lv (.long (μ.2 c i.toNatClampNeg) :: st) (go_mk tx μ) Z) : Go w d bc bs m pc lv (.int i :: .ref c :: st) (go_mk tx μ) Z := go_lld hd hk hin k
theorem pp_lldc {c n q : Nat} {i : Int32} (hd : decode m.2.2.1 pc = .ok (.laload, 1)) (hk : go_SH[c]? = some (101, n)) (hq : (decide (0 ≤ i) && (i.toNatClampNeg == q) && decide (q < n)) = true) (k : Go w d bc bs m (pc + 1) lv (.long (μ.2 c q) :: st) (go_mk tx μ) Z) : Go w d bc bs m pc lv (.int i :: .ref c :: st) (go_mk tx μ) Z := by
  obtain ⟨h1, h2⟩ := pp_in hq
  subst h2
  exact go_lld hd hk h1 k
theorem pp_zld {c n : Nat} {i : Int32} (hd : decode m.2.2.1 pc = .ok (.baload, 1)) (hk : go_SH[c]? = some (102, n)) (hin : vp_in i n) (k : Go w d bc bs m (pc + 1) lv (.int (μ.1 c i.toNatClampNeg) :: st) (go_mk tx μ) Z) : Go w d bc bs m pc lv (.int i :: .ref c :: st) (go_mk tx μ) Z := go_zld hd hk hin k
theorem pp_ist {c n : Nat} {i x : Int32} (hd : decode m.2.2.1 pc = .ok (.iastore, 1)) (hk : go_SH[c]? = some (100, n)) (hin : vp_in i n) (hμ : μ1 = pm_wi μ c i.toNatClampNeg x) (k : Go w d bc bs m (pc + 1) lv st (go_mk tx μ1) Z) : Go w d bc bs m pc lv (.int x :: .int i :: .ref c :: st) (go_mk tx μ) Z := by
  subst hμ
  exact go_ist hd hk hin k
theorem pp_istc {c n q : Nat} {i x : Int32} (hd : decode m.2.2.1 pc = .ok (.iastore, 1)) (hk : go_SH[c]? = some (100, n)) (hq : (decide (0 ≤ i) && (i.toNatClampNeg == q) && decide (q < n)) = true) (hμ : μ1 = pm_wi μ c q x) (k : Go w d bc bs m (pc + 1) lv st (go_mk tx μ1) Z) : Go w d bc bs m pc lv (.int x :: .int i :: .ref c :: st) (go_mk tx μ) Z := by
  obtain ⟨h1, h2⟩ := pp_in hq
  subst h2
  exact pp_ist hd hk h1 hμ k
theorem pp_lst {c n : Nat} {i : Int32} {x : Int64} (hd : decode m.2.2.1 pc = .ok (.lastore, 1)) (hk : go_SH[c]? = some (101, n)) (hin : vp_in i n) (hμ : μ1 = pm_wl μ c i.toNatClampNeg x) (k : Go w d bc bs m (pc + 1) lv st (go_mk tx μ1) Z) : Go w d bc bs m pc lv (.long x :: .int i :: .ref c :: st) (go_mk tx μ) Z := by
  subst hμ
  exact go_lst hd hk hin k
theorem pp_zst {c n : Nat} {i x : Int32} (hd : decode m.2.2.1 pc = .ok (.bastore, 1)) (hk : go_SH[c]? = some (102, n)) (hin : vp_in i n) (hx : x = 0 ∨ x = 1) (hμ : μ1 = pm_wi μ c i.toNatClampNeg x) (k : Go w d bc bs m (pc + 1) lv st (go_mk tx μ1) Z) : Go w d bc bs m pc lv (.int x :: .int i :: .ref c :: st) (go_mk tx μ) Z := by
  subst hμ
  exact go_zst hd hk hin hx k
theorem pp_ald {c n q t : Nat} {i : Int32} (hd : decode m.2.2.1 pc = .ok (.aaload, 1)) (hk : go_SH[c]? = some (t, n)) (ht : t = 103 ∨ t = 104) (hin : vp_in i n) (hv : go_RF tx c i.toNatClampNeg = some q) (k : Go w d bc bs m (pc + 1) lv (.ref q :: st) (go_mk tx μ) Z) : Go w d bc bs m pc lv (.int i :: .ref c :: st) (go_mk tx μ) Z := go_ald hd hk ht hin hv k
theorem pp_alen {c n : Nat} {v : Int32} (hd : decode m.2.2.1 pc = .ok (.arraylength, 1)) (hk : go_SH[c]? = some (100, n)) (hv : Int32.ofNat n = v) (k : Go w d bc bs m (pc + 1) lv (.int v :: st) (go_mk tx μ) Z) : Go w d bc bs m pc lv (.ref c :: st) (go_mk tx μ) Z := go_alen hd hk hv k
theorem pp_copy {idx c0 c1 n0 n1 q0 q1 q2 : Nat} {sp dp n : Int32} (hd : decode m.2.2.1 pc = .ok (.invokestatic idx, 3)) (hL : Cond.methodLink m.1 idx arraycopyName ∈ go_all ∧ Cond.native arraycopyName ∈ go_all ∧ Cond.static arraycopyName ∈ go_all ∧ Cond.initialized "java/lang/System" ∈ go_all) (hdd : 1 ≤ d) (hst : (st.map fun v => v.category).sum ≤ 8)
    (hk0 : go_SH[c0]? = some (100, n0)) (hk1 : go_SH[c1]? = some (100, n1)) (hq : (decide (0 ≤ sp) && decide (0 ≤ dp) && decide (0 ≤ n) && (sp.toNatClampNeg == q0) && (dp.toNatClampNeg == q1) && (n.toNatClampNeg == q2) && decide (q0 + q2 ≤ n0) && decide (q1 + q2 ≤ n1)) = true)
    (hμ : μ1 = pm_cp μ c0 c1 q0 q1 q2) (k : Go w d bc bs m (pc + 3) lv st (go_mk tx μ1) Z) : Go w d bc bs m pc lv (.int n :: .int dp :: .ref c1 :: .int sp :: .ref c0 :: st) (go_mk tx μ) Z := by
  simp only [Bool.and_eq_true, decide_eq_true_eq, beq_iff_eq] at hq
  obtain ⟨⟨⟨⟨⟨⟨⟨a1, a2⟩, a3⟩, a4⟩, a5⟩, a6⟩, a7⟩, a8⟩ := hq
  subst hμ; subst a4; subst a5; subst a6
  exact go_copy hd hL hdd hst hk0 hk1 (Int32.not_lt.mpr a1) (Int32.not_lt.mpr a2) (Int32.not_lt.mpr a3) a7 a8 k
theorem go_top {x e : Int32} {M : go_M} (hx : x = e) (k : Go w d bc bs m pc lv (.int x :: st) M Z) : Go w d bc bs m pc lv (.int e :: st) M Z := hx ▸ k
theorem go_topl {x e : Int64} {M : go_M} (hx : x = e) (k : Go w d bc bs m pc lv (.long x :: st) M Z) : Go w d bc bs m pc lv (.long e :: st) M Z := hx ▸ k
variable {d2 idx n : Nat} {m2 : go_Mt} {as : List Value} {rv : Option Value} {st0 st1 : List Value}
theorem pp_callS (hd : decode m.2.2.1 pc = .ok (.invokestatic idx, 3)) (hL : go_LS m.1 idx m2 n) (hc : Ct w d2 0 0 m2 as (go_mk tx μ) (fun r M' => r = rv ∧ M' = go_mk tx μ1)) (hn : as.length = n) (hdd : d2 + 1 ≤ d) (hst : (st.map fun v => v.category).sum ≤ 8) (hZ : go_up Z) (hs0 : as.reverse ++ st = st0) (hs1 : rv.toList ++ st = st1) (k : Go w d bc bs m (pc + 3) lv st1 (go_mk tx μ1) Z) : Go w d bc bs m pc lv st0 (go_mk tx μ) Z := by
  have := go_callS (bc := bc) (bs := bs) (lv := lv) hd hL hc hn hdd hst hZ hs0 (fun r M' h => Or.inl (by rw [h.2]; rfl)) (fun r M' h => by rw [h.1, h.2, hs1]; exact k)
  rw [Nat.zero_add, Nat.zero_add] at this
  exact this
theorem pp_callSN (hd : decode m.2.2.1 pc = .ok (.invokestatic idx, 3)) (hL : go_LSN m.1 idx m2 n) (hc : Ct w d2 0 0 m2 as (go_mk tx μ) (fun r M' => r = rv ∧ M' = go_mk tx μ1)) (hn : as.length = n) (hdd : d2 + 1 ≤ d) (hst : (st.map fun v => v.category).sum ≤ 8) (hZ : go_up Z) (hs0 : as.reverse ++ st = st0) (hs1 : rv.toList ++ st = st1) (k : Go w d bc bs m (pc + 3) lv st1 (go_mk tx μ1) Z) : Go w d bc bs m pc lv st0 (go_mk tx μ) Z := by
  have := go_callSN (bc := bc) (bs := bs) (lv := lv) hd hL hc hn hdd hst hZ hs0 (fun r M' h => Or.inl (by rw [h.2]; rfl)) (fun r M' h => by rw [h.1, h.2, hs1]; exact k)
  rw [Nat.zero_add, Nat.zero_add] at this
  exact this
theorem pp_callV {b ci nn N tx1 : Nat} {T : u_T} (hd : decode m.2.2.1 pc = .ok (.invokevirtual idx, 3)) (hL : go_LV m.1 idx m2 n) (hk : go_SH[b]? = some (ci, nn)) (hci : ci < 100) (hcl : go_cl[ci]? = some (m2.1, T, N)) (hc : Ct w d2 0 0 m2 (.ref b :: as) (go_mk tx μ) (fun r M' => r = rv ∧ M' = go_mk tx1 μ1)) (hn : as.length = n) (hdd : d2 + 1 ≤ d) (hst : (st.map fun v => v.category).sum ≤ 8) (hZ : go_up Z) (hs0 : as.reverse ++ .ref b :: st = st0) (hs1 : rv.toList ++ st = st1) (k : Go w d bc bs m (pc + 3) lv st1 (go_mk tx1 μ1) Z) : Go w d bc bs m pc lv st0 (go_mk tx μ) Z := by
  have := go_callV (bc := bc) (bs := bs) (lv := lv) hd hL hk hci hcl hc hn hdd hst hZ hs0 (fun r M' h => Or.inl (by rw [h.2]; rfl)) (fun r M' h => by rw [h.1, h.2, hs1]; exact k)
  rw [Nat.zero_add, Nat.zero_add] at this
  exact this
theorem go_aloadO {kk : Fin 4} {q : Option Nat} {M : go_M} (hd : decode m.2.2.1 pc = .ok (.aload_n kk, 1)) (i : Nat) (hi : lv[i]? = some ((kk : Nat), go_on q)) (k : Go w d bc bs m (pc + 1) lv (go_on q :: st) M Z) : Go w d bc bs m pc lv st M Z := by
  cases q with
  | none => exact go_aload_nN hd i hi k
  | some q => exact go_aload_n hd i hi k
theorem go_aloadO2 {j : Nat} {q : Option Nat} {M : go_M} (hd : decode m.2.2.1 pc = .ok (.aload j, 2)) (i : Nat) (hi : lv[i]? = some (j, go_on q)) (k : Go w d bc bs m (pc + 2) lv (go_on q :: st) M Z) : Go w d bc bs m pc lv st M Z := by
  cases q with
  | none => exact go_aloadN hd i hi k
  | some q => exact go_aload hd i hi k
theorem go_on_cat (q : Option Nat) : (go_on q).category = 1 := by cases q <;> rfl
theorem go_astoreO {kk : Fin 4} {q : Option Nat} {M : go_M} {lv' : List (Nat × Value)} (hd : decode m.2.2.1 pc = .ok (.astore_n kk, 1)) (hn : (kk : Nat) < m.2.2.2.1) (hv : ((kk : Nat), go_on q) :: lv.filter (fun q => !(q.1 == (kk : Nat)) && !(q.1 + 1 == (kk : Nat) && q.2.category == 2)) = lv') (k : Go w d bc bs m (pc + 1) lv' st M Z) : Go w d bc bs m pc lv (go_on q :: st) M Z := by
  cases q with
  | none => exact go_astore_nN hd hn hv k
  | some q => exact go_astore_n hd hn hv k
theorem go_astoreO2 {j : Nat} {q : Option Nat} {M : go_M} {lv' : List (Nat × Value)} (hd : decode m.2.2.1 pc = .ok (.astore j, 2)) (hn : j < m.2.2.2.1) (hv : (j, go_on q) :: lv.filter (fun q => !(q.1 == j) && !(q.1 + 1 == j && q.2.category == 2)) = lv') (k : Go w d bc bs m (pc + 2) lv' st M Z) : Go w d bc bs m pc lv (go_on q :: st) M Z := by
  cases q with
  | none => exact go_astoreN hd hn hv k
  | some q => exact go_astore hd hn hv k
end PMr

def go_cs {ε υ α : Type} (r : ε ⊕ υ) (f : ε → α) (g : υ → α) : α := match r with
  | .inl e => f e
  | .inr y => g y
theorem go_csl {ε υ α : Type} {e : ε} {f : ε → α} {g : υ → α} {r : α} (h : go_cs (.inl e) f g = r) : f e = r := h
theorem go_csr {ε υ α : Type} {y : υ} {f : ε → α} {g : υ → α} {r : α} (h : go_cs (.inr y) f g = r) : g y = r := h
def go_op {α : Type} (o : Option Nat) (n : α) (f : Nat → α) : α := match o with
  | none => n
  | some q => f q
theorem go_opn {α : Type} {n : α} {f : Nat → α} {r : α} (h : go_op none n f = r) : n = r := h
theorem go_ops {α : Type} {q : Nat} {n : α} {f : Nat → α} {r : α} (h : go_op (some q) n f = r) : f q = r := h
def jrem (x y : Int32) : Int32 := x - x / y * y
def jreml (x y : Int64) : Int64 := x - x / y * y
def jushr (x y : Int32) : Int32 := (x.toUInt32 >>> (y.toUInt32 &&& Int32.toUInt32 31)).toInt32
def jmax (x y : Int32) : Int32 := if x < y then y else x
def jmin (x y : Int32) : Int32 := if y < x then y else x
def jabs (x : Int32) : Int32 := if 0 ≤ x then x else 0 - x
def go_tn (i : Int32) : Int32 := ([1, 10, 100, 1000, 10000, 100000, 1000000] : List Int32).getD i.toNatClampNeg 0
def go_fc (i : Int32) : Int32 := ([1, 1, 2, 6, 24, 120] : List Int32).getD i.toNatClampNeg 0
def go_nz {α : Type} (y : Int32) (A : Option α) : Option α := if y = 0 then none else A
theorem go_nz_e {α : Type} {y : Int32} {A : Option α} {r : α} (h : go_nz y A = some r) : ¬ y = 0 ∧ A = some r := by
  unfold go_nz at h
  by_cases hc : y = 0
  · rw [if_pos hc] at h; cases h
  · rw [if_neg hc] at h; exact ⟨hc, h⟩
def go_nzl {α : Type} (y : Int64) (A : Option α) : Option α := if y = 0 then none else A
theorem go_nzl_e {α : Type} {y : Int64} {A : Option α} {r : α} (h : go_nzl y A = some r) : ¬ y = 0 ∧ A = some r := by
  unfold go_nzl at h
  by_cases hc : y = 0
  · rw [if_pos hc] at h; cases h
  · rw [if_neg hc] at h; exact ⟨hc, h⟩
theorem go_in_lt {i : Int32} {n : Nat} (h : vp_in i n) : i.toNatClampNeg < n := Nat.not_le.mp fun q => h (Or.inr q)
section PMs
variable {w : go_Wd} {d bc bs : Nat} {m : go_Mt} {pc : Nat} {lv : List (Nat × Value)} {st : List Value} {M : go_M} {Z : go_ZT}
theorem go_iremJ {x y : Int32} (hd : decode m.2.2.1 pc = .ok (.irem, 1)) (hne : ¬ y = 0) (k : Go w d bc bs m (pc + 1) lv (.int (jrem x y) :: st) M Z) : Go w d bc bs m pc lv (.int y :: .int x :: st) M Z := go_irem hd hne k
theorem go_lremJ {x y : Int64} (hd : decode m.2.2.1 pc = .ok (.lrem, 1)) (hne : ¬ y = 0) (k : Go w d bc bs m (pc + 1) lv (.long (jreml x y) :: st) M Z) : Go w d bc bs m pc lv (.long y :: .long x :: st) M Z := go_lrem hd hne k
theorem go_tabIn {dflt lo hi : Int} {offs : Array Int} {len : Nat} {x : Int32} {off : Int} (tgt : Nat) (hd : decode m.2.2.1 pc = .ok (.tableswitch dflt lo hi offs, len)) (k : Int32) (hx : x = k) (h1 : ¬ k.toInt < lo) (h2 : ¬ hi < k.toInt) (ho : offs[(k.toInt - lo).toNat]? = some off) (ht : (pc : Int) + off = (tgt : Int)) (kk : Go w d bc bs m tgt lv st M Z) : Go w d bc bs m pc lv (.int x :: st) M Z := by
  intro p e R s m' args below meth c H ls locs cells slots ad C g1 g2 hR hS hl
  subst hx
  exact lv_tableIn C.1 C.2.1 hd h1 h2 ho ht (kk p e R s m' args below meth c H ls locs cells slots ad C g1 g2 hR hS hl)
theorem go_tabOut {dflt lo hi : Int} {offs : Array Int} {len : Nat} {x : Int32} (tgt : Nat) (hd : decode m.2.2.1 pc = .ok (.tableswitch dflt lo hi offs, len)) (h : x.toInt < lo ∨ hi < x.toInt) (ht : (pc : Int) + dflt = (tgt : Int)) (kk : Go w d bc bs m tgt lv st M Z) : Go w d bc bs m pc lv (.int x :: st) M Z := by
  intro p e R s m' args below meth c H ls locs cells slots ad C g1 g2 hR hS hl
  exact lv_tableOut C.1 C.2.1 hd h ht (kk p e R s m' args below meth c H ls locs cells slots ad C g1 g2 hR hS hl)
end PMs
