/-! ===== the law, case by case ===== -/
def lwl (i : Nat) : List (Nat × Value) := [(3, .int (nI i)), (2, .ref 401), (1, .ref 0), (0, .ref 1000002)]
theorem RR_both {F G : PM → Option (Int32 × PM)} {μ : PM} (h : BOTH F G) (hr : RR μ μ) : ∃ r μ1 μ2, F μ = some (r, μ1) ∧ G μ1 = some (r, μ2) ∧ RR μ2 μ2 := RR_step h hr
theorem RR_bothL {F G : PM → Option (Int64 × PM)} {μ : PM} (h : BOTH F G) (hr : RR μ μ) : ∃ r μ1 μ2, F μ = some (r, μ1) ∧ G μ1 = some (r, μ2) ∧ RR μ2 μ2 := RR_step h hr
theorem RR_rests {μ : PM} (hr : RR μ μ) : ∃ r μ2, fX11_rests μ = some r ∧ fX12_rests μ = some (r, μ2) ∧ RR μ2 μ2 := by
  obtain ⟨r, μ1, μ2, h1, h2, h3⟩ := RR_both c_rests hr
  have h1 : (fX11_rests μ).map (fun r => (r, μ)) = some (r, μ1) := h1
  cases e : fX11_rests μ with
  | none => rw [e] at h1; cases h1
  | some r' =>
    rw [e] at h1
    cases h1
    exact ⟨_, μ2, rfl, h2, h3⟩
theorem RR_text {μ : PM} (hr : RR μ μ) : ∃ r o μ1 μ2, fX11_text μ = some (r, o, μ1) ∧ fX12_text μ1 = some (r, μ2) ∧ RR μ2 μ2 := by
  obtain ⟨r, o, μ1, μx, h1, -, -, h4, -, -⟩ := c_text hr
  obtain ⟨r', o', μ1', μ2, k1, k2, k3, -, k5, -⟩ := c_text (RR_m hr h4)
  rw [h1] at k1
  cases k1
  exact ⟨r, o, μ1, μ2, h1, k2, RR_c k3 k5⟩
theorem lc_same (r : Int64) : lg_cmp r r = 0 := lc_eq.mpr rfl
section LAW
variable {w : go_Wd} {tx i : Nat} {μ : PM} {Z : go_ZT} {st : List Value} {pc : Nat}
theorem la {j : Nat} {n : Int} (hd1 : decode code pc = .ok (.aload_n 0, 1)) (hd2 : decode code (pc + 1) = .ok (.iload_n 3, 1)) (hd3 : decode code (pc + 1 + 1) = .ok (.iconst n, 1)) (hd4 : decode code (pc + 1 + 1 + 1) = .ok (.iadd, 1)) (hd5 : decode code (pc + 1 + 1 + 1 + 1) = .ok (.iaload, 1)) (hj : Int32.ofInt n = nI j) (h6 : j < 6) (hi : i + 6 ≤ w.2.2.2.2.2.1) (hL : w.2.2.2.2.2.1 ≤ 3072) (K : Go w 544 0 0 mtL_law (pc + 1 + 1 + 1 + 1 + 1) (lwl i) (.int (w.2.2.2.2.2.2 (i + j)) :: st) (go_mk tx μ) Z) : Go w 544 0 0 mtL_law pc (lwl i) st (go_mk tx μ) Z := by
  refine go_aload_n hd1 3 rfl ?_
  refine go_iload_n hd2 0 rfl ?_
  refine go_iconst (v := nI j) hd3 hj ?_
  refine go_iadd hd4 ?_
  refine go_top (x := nI (i + j)) (nI_add i j).symm ?_
  refine go_ldX hd5 (vp_n (by omega) (by omega)) ?_
  rw [cl_n (show i + j < 2147483648 by omega)]
  exact K
theorem lb {x : Int32} {lv : List (Nat × Value)} (hd1 : decode code pc = .ok (.ifCond .eq 7, 3)) (hd2 : decode code (pc + 3) = .ok (.iconst 1, 1)) (hd3 : decode code (pc + 3 + 1) = .ok (.goto 4, 3)) (hd4 : decode code (pc + 7) = .ok (.iconst 0, 1)) (K : Go w 544 0 0 mtL_law (pc + 8) lv (.int (if x = 0 then (0 : Int32) else 1) :: st) (go_mk tx μ) Z) : Go w 544 0 0 mtL_law pc lv (.int x :: st) (go_mk tx μ) Z := by
  refine go_if_eq (pc + 7) hd1 (by omega) (fun hx => ?_) (fun hx => ?_)
  · refine go_iconst (v := 0) hd4 (by decide) ?_
    rw [if_pos hx] at K
    exact K
  · refine go_iconst (v := 1) hd2 (by decide) ?_
    refine go_goto (pc + 8) hd3 (by omega) ?_
    rw [if_neg hx] at K
    exact K
end LAW
theorem lc_0 {w : go_Wd} {tx i : Nat} {μ : PM} {Z : go_ZT} (hZ : go_up Z) (hL : w.2.2.2.2.2.1 ≤ 3072) (hi : i + 6 ≤ w.2.2.2.2.2.1) (hR : RR μ μ) (K : ∀ tx' μ', RR μ' μ' → Go w 544 0 0 mtL_law 1669 (lwl i) [] (go_mk tx' μ') Z) : Go w 544 0 0 mtL_law 248 (lwl i) [] (go_mk tx μ) Z := by
  refine go_aload_n dL_law_248 2 rfl ?_
  refine la (j := 1) dL_law_249 dL_law_250 dL_law_251 dL_law_252 dL_law_253 rfl (by decide) hi hL ?_
  show Go w 544 0 0 mtL_law 254 (lwl i) [.int (w.2.2.2.2.2.2 (i + 1)), .ref 0] (go_mk tx μ) Z
  refine la (j := 2) dL_law_254 dL_law_255 dL_law_256 dL_law_257 dL_law_258 rfl (by decide) hi hL ?_
  show Go w 544 0 0 mtL_law 259 (lwl i) [.int (w.2.2.2.2.2.2 (i + 2)), .int (w.2.2.2.2.2.2 (i + 1)), .ref 0] (go_mk tx μ) Z
  obtain ⟨r, μ1, μ2, h1, h2, hR2⟩ := RR_both (c_name (w.2.2.2.2.2.2 (i + 1)) (w.2.2.2.2.2.2 (i + 2))) hR
  refine pp_callV (m := mtL_law) (as := [.int (w.2.2.2.2.2.2 (i + 1)), .int (w.2.2.2.2.2.2 (i + 2))]) (st := []) (rv := some (.int r)) (μ1 := μ1) (tx1 := tx) (st1 := [.int r]) dL_law_259 ll_L_13 sh_0 (by decide) rfl (ctX11_name h1) rfl (Nat.le_of_ble_eq_true rfl) (Nat.le_of_ble_eq_true rfl) hZ rfl rfl ?_
  show Go w 544 0 0 mtL_law 262 (lwl i) [.int r] (go_mk tx μ1) Z
  refine go_aload_n dL_law_262 1 rfl ?_
  refine la (j := 1) dL_law_263 dL_law_264 dL_law_265 dL_law_266 dL_law_267 rfl (by decide) hi hL ?_
  show Go w 544 0 0 mtL_law 268 (lwl i) [.int (w.2.2.2.2.2.2 (i + 1)), .ref 401, .int r] (go_mk tx μ1) Z
  refine la (j := 2) dL_law_268 dL_law_269 dL_law_270 dL_law_271 dL_law_272 rfl (by decide) hi hL ?_
  show Go w 544 0 0 mtL_law 273 (lwl i) [.int (w.2.2.2.2.2.2 (i + 2)), .int (w.2.2.2.2.2.2 (i + 1)), .ref 401, .int r] (go_mk tx μ1) Z
  refine pp_callV (m := mtL_law) (as := [.int (w.2.2.2.2.2.2 (i + 1)), .int (w.2.2.2.2.2.2 (i + 2))]) (st := [.int r]) (rv := some (.int r)) (μ1 := μ2) (tx1 := tx) (st1 := [.int r, .int r]) dL_law_273 ll_L_17 sh_401 (by decide) rfl (ctX12_name h2) rfl (Nat.le_of_ble_eq_true rfl) (Nat.le_of_ble_eq_true rfl) hZ rfl rfl ?_
  show Go w 544 0 0 mtL_law 276 (lwl i) [.int r, .int r] (go_mk tx μ2) Z
  refine go_icmp_eq 1669 dL_law_276 (by decide) (fun _ => K tx μ2 hR2) (fun hc => absurd rfl hc)
theorem lc_1 {w : go_Wd} {tx i : Nat} {μ : PM} {Z : go_ZT} (hZ : go_up Z) (hL : w.2.2.2.2.2.1 ≤ 3072) (hi : i + 6 ≤ w.2.2.2.2.2.1) (hR : RR μ μ) (K : ∀ tx' μ', RR μ' μ' → Go w 544 0 0 mtL_law 1669 (lwl i) [] (go_mk tx' μ') Z) : Go w 544 0 0 mtL_law 281 (lwl i) [] (go_mk tx μ) Z := by
  refine go_aload_n dL_law_281 2 rfl ?_
  refine la (j := 1) dL_law_282 dL_law_283 dL_law_284 dL_law_285 dL_law_286 rfl (by decide) hi hL ?_
  show Go w 544 0 0 mtL_law 287 (lwl i) [.int (w.2.2.2.2.2.2 (i + 1)), .ref 0] (go_mk tx μ) Z
  refine la (j := 2) dL_law_287 dL_law_288 dL_law_289 dL_law_290 dL_law_291 rfl (by decide) hi hL ?_
  show Go w 544 0 0 mtL_law 292 (lwl i) [.int (w.2.2.2.2.2.2 (i + 2)), .int (w.2.2.2.2.2.2 (i + 1)), .ref 0] (go_mk tx μ) Z
  obtain ⟨r, μ1, μ2, h1, h2, hR2⟩ := RR_both (c_family (w.2.2.2.2.2.2 (i + 1)) (w.2.2.2.2.2.2 (i + 2))) hR
  refine pp_callV (m := mtL_law) (as := [.int (w.2.2.2.2.2.2 (i + 1)), .int (w.2.2.2.2.2.2 (i + 2))]) (st := []) (rv := some (.int r)) (μ1 := μ1) (tx1 := tx) (st1 := [.int r]) dL_law_292 ll_L_18 sh_0 (by decide) rfl (ctX11_family h1) rfl (Nat.le_of_ble_eq_true rfl) (Nat.le_of_ble_eq_true rfl) hZ rfl rfl ?_
  show Go w 544 0 0 mtL_law 295 (lwl i) [.int r] (go_mk tx μ1) Z
  refine go_aload_n dL_law_295 1 rfl ?_
  refine la (j := 1) dL_law_296 dL_law_297 dL_law_298 dL_law_299 dL_law_300 rfl (by decide) hi hL ?_
  show Go w 544 0 0 mtL_law 301 (lwl i) [.int (w.2.2.2.2.2.2 (i + 1)), .ref 401, .int r] (go_mk tx μ1) Z
  refine la (j := 2) dL_law_301 dL_law_302 dL_law_303 dL_law_304 dL_law_305 rfl (by decide) hi hL ?_
  show Go w 544 0 0 mtL_law 306 (lwl i) [.int (w.2.2.2.2.2.2 (i + 2)), .int (w.2.2.2.2.2.2 (i + 1)), .ref 401, .int r] (go_mk tx μ1) Z
  refine pp_callV (m := mtL_law) (as := [.int (w.2.2.2.2.2.2 (i + 1)), .int (w.2.2.2.2.2.2 (i + 2))]) (st := [.int r]) (rv := some (.int r)) (μ1 := μ2) (tx1 := tx) (st1 := [.int r, .int r]) dL_law_306 ll_L_21 sh_401 (by decide) rfl (ctX12_family h2) rfl (Nat.le_of_ble_eq_true rfl) (Nat.le_of_ble_eq_true rfl) hZ rfl rfl ?_
  show Go w 544 0 0 mtL_law 309 (lwl i) [.int r, .int r] (go_mk tx μ2) Z
  refine go_icmp_eq 1669 dL_law_309 (by decide) (fun _ => K tx μ2 hR2) (fun hc => absurd rfl hc)
theorem lc_2 {w : go_Wd} {tx i : Nat} {μ : PM} {Z : go_ZT} (hZ : go_up Z) (hL : w.2.2.2.2.2.1 ≤ 3072) (hi : i + 6 ≤ w.2.2.2.2.2.1) (hR : RR μ μ) (K : ∀ tx' μ', RR μ' μ' → Go w 544 0 0 mtL_law 1669 (lwl i) [] (go_mk tx' μ') Z) : Go w 544 0 0 mtL_law 314 (lwl i) [] (go_mk tx μ) Z := by
  refine go_aload_n dL_law_314 2 rfl ?_
  refine la (j := 1) dL_law_315 dL_law_316 dL_law_317 dL_law_318 dL_law_319 rfl (by decide) hi hL ?_
  show Go w 544 0 0 mtL_law 320 (lwl i) [.int (w.2.2.2.2.2.2 (i + 1)), .ref 0] (go_mk tx μ) Z
  refine la (j := 2) dL_law_320 dL_law_321 dL_law_322 dL_law_323 dL_law_324 rfl (by decide) hi hL ?_
  refine lb dL_law_325 dL_law_328 dL_law_329 dL_law_332 ?_
  show Go w 544 0 0 mtL_law 333 (lwl i) [.int (if (w.2.2.2.2.2.2 (i + 2)) = 0 then (0 : Int32) else 1), .int (w.2.2.2.2.2.2 (i + 1)), .ref 0] (go_mk tx μ) Z
  obtain ⟨r, μ1, μ2, h1, h2, hR2⟩ := RR_both (c_eddy (w.2.2.2.2.2.2 (i + 1)) (if (w.2.2.2.2.2.2 (i + 2)) = 0 then (0 : Int32) else 1)) hR
  refine pp_callV (m := mtL_law) (as := [.int (w.2.2.2.2.2.2 (i + 1)), .int (if (w.2.2.2.2.2.2 (i + 2)) = 0 then (0 : Int32) else 1)]) (st := []) (rv := some (.int r)) (μ1 := μ1) (tx1 := tx) (st1 := [.int r]) dL_law_333 ll_L_22 sh_0 (by decide) rfl (ctX11_eddy (Option.some.inj h1)) rfl (Nat.le_of_ble_eq_true rfl) (Nat.le_of_ble_eq_true rfl) hZ rfl rfl ?_
  show Go w 544 0 0 mtL_law 336 (lwl i) [.int r] (go_mk tx μ1) Z
  refine go_aload_n dL_law_336 1 rfl ?_
  refine la (j := 1) dL_law_337 dL_law_338 dL_law_339 dL_law_340 dL_law_341 rfl (by decide) hi hL ?_
  show Go w 544 0 0 mtL_law 342 (lwl i) [.int (w.2.2.2.2.2.2 (i + 1)), .ref 401, .int r] (go_mk tx μ1) Z
  refine la (j := 2) dL_law_342 dL_law_343 dL_law_344 dL_law_345 dL_law_346 rfl (by decide) hi hL ?_
  refine lb dL_law_347 dL_law_350 dL_law_351 dL_law_354 ?_
  show Go w 544 0 0 mtL_law 355 (lwl i) [.int (if (w.2.2.2.2.2.2 (i + 2)) = 0 then (0 : Int32) else 1), .int (w.2.2.2.2.2.2 (i + 1)), .ref 401, .int r] (go_mk tx μ1) Z
  refine pp_callV (m := mtL_law) (as := [.int (w.2.2.2.2.2.2 (i + 1)), .int (if (w.2.2.2.2.2.2 (i + 2)) = 0 then (0 : Int32) else 1)]) (st := [.int r]) (rv := some (.int r)) (μ1 := μ2) (tx1 := tx) (st1 := [.int r, .int r]) dL_law_355 ll_L_26 sh_401 (by decide) rfl (ctX12_eddy (Option.some.inj h2)) rfl (Nat.le_of_ble_eq_true rfl) (Nat.le_of_ble_eq_true rfl) hZ rfl rfl ?_
  show Go w 544 0 0 mtL_law 358 (lwl i) [.int r, .int r] (go_mk tx μ2) Z
  refine go_icmp_eq 1669 dL_law_358 (by decide) (fun _ => K tx μ2 hR2) (fun hc => absurd rfl hc)
theorem lc_3 {w : go_Wd} {tx i : Nat} {μ : PM} {Z : go_ZT} (hZ : go_up Z) (hL : w.2.2.2.2.2.1 ≤ 3072) (hi : i + 6 ≤ w.2.2.2.2.2.1) (hR : RR μ μ) (K : ∀ tx' μ', RR μ' μ' → Go w 544 0 0 mtL_law 1669 (lwl i) [] (go_mk tx' μ') Z) : Go w 544 0 0 mtL_law 363 (lwl i) [] (go_mk tx μ) Z := by
  refine go_aload_n dL_law_363 2 rfl ?_
  refine la (j := 1) dL_law_364 dL_law_365 dL_law_366 dL_law_367 dL_law_368 rfl (by decide) hi hL ?_
  show Go w 544 0 0 mtL_law 369 (lwl i) [.int (w.2.2.2.2.2.2 (i + 1)), .ref 0] (go_mk tx μ) Z
  refine la (j := 2) dL_law_369 dL_law_370 dL_law_371 dL_law_372 dL_law_373 rfl (by decide) hi hL ?_
  show Go w 544 0 0 mtL_law 374 (lwl i) [.int (w.2.2.2.2.2.2 (i + 2)), .int (w.2.2.2.2.2.2 (i + 1)), .ref 0] (go_mk tx μ) Z
  refine la (j := 3) dL_law_374 dL_law_375 dL_law_376 dL_law_377 dL_law_378 rfl (by decide) hi hL ?_
  show Go w 544 0 0 mtL_law 379 (lwl i) [.int (w.2.2.2.2.2.2 (i + 3)), .int (w.2.2.2.2.2.2 (i + 2)), .int (w.2.2.2.2.2.2 (i + 1)), .ref 0] (go_mk tx μ) Z
  refine la (j := 4) dL_law_379 dL_law_380 dL_law_381 dL_law_382 dL_law_383 rfl (by decide) hi hL ?_
  show Go w 544 0 0 mtL_law 384 (lwl i) [.int (w.2.2.2.2.2.2 (i + 4)), .int (w.2.2.2.2.2.2 (i + 3)), .int (w.2.2.2.2.2.2 (i + 2)), .int (w.2.2.2.2.2.2 (i + 1)), .ref 0] (go_mk tx μ) Z
  refine la (j := 5) dL_law_384 dL_law_385 dL_law_386 dL_law_387 dL_law_388 rfl (by decide) hi hL ?_
  show Go w 544 0 0 mtL_law 389 (lwl i) [.int (w.2.2.2.2.2.2 (i + 5)), .int (w.2.2.2.2.2.2 (i + 4)), .int (w.2.2.2.2.2.2 (i + 3)), .int (w.2.2.2.2.2.2 (i + 2)), .int (w.2.2.2.2.2.2 (i + 1)), .ref 0] (go_mk tx μ) Z
  obtain ⟨r, μ1, μ2, h1, h2, hR2⟩ := RR_both (c_feed (w.2.2.2.2.2.2 (i + 1)) (w.2.2.2.2.2.2 (i + 2)) (w.2.2.2.2.2.2 (i + 3)) (w.2.2.2.2.2.2 (i + 4)) (w.2.2.2.2.2.2 (i + 5))) hR
  refine pp_callV (m := mtL_law) (as := [.int (w.2.2.2.2.2.2 (i + 1)), .int (w.2.2.2.2.2.2 (i + 2)), .int (w.2.2.2.2.2.2 (i + 3)), .int (w.2.2.2.2.2.2 (i + 4)), .int (w.2.2.2.2.2.2 (i + 5))]) (st := []) (rv := some (.int r)) (μ1 := μ1) (tx1 := tx) (st1 := [.int r]) dL_law_389 ll_L_27 sh_0 (by decide) rfl (ctX11_feed h1) rfl (Nat.le_of_ble_eq_true rfl) (Nat.le_of_ble_eq_true rfl) hZ rfl rfl ?_
  show Go w 544 0 0 mtL_law 392 (lwl i) [.int r] (go_mk tx μ1) Z
  refine go_aload_n dL_law_392 1 rfl ?_
  refine la (j := 1) dL_law_393 dL_law_394 dL_law_395 dL_law_396 dL_law_397 rfl (by decide) hi hL ?_
  show Go w 544 0 0 mtL_law 398 (lwl i) [.int (w.2.2.2.2.2.2 (i + 1)), .ref 401, .int r] (go_mk tx μ1) Z
  refine la (j := 2) dL_law_398 dL_law_399 dL_law_400 dL_law_401 dL_law_402 rfl (by decide) hi hL ?_
  show Go w 544 0 0 mtL_law 403 (lwl i) [.int (w.2.2.2.2.2.2 (i + 2)), .int (w.2.2.2.2.2.2 (i + 1)), .ref 401, .int r] (go_mk tx μ1) Z
  refine la (j := 3) dL_law_403 dL_law_404 dL_law_405 dL_law_406 dL_law_407 rfl (by decide) hi hL ?_
  show Go w 544 0 0 mtL_law 408 (lwl i) [.int (w.2.2.2.2.2.2 (i + 3)), .int (w.2.2.2.2.2.2 (i + 2)), .int (w.2.2.2.2.2.2 (i + 1)), .ref 401, .int r] (go_mk tx μ1) Z
  refine la (j := 4) dL_law_408 dL_law_409 dL_law_410 dL_law_411 dL_law_412 rfl (by decide) hi hL ?_
  show Go w 544 0 0 mtL_law 413 (lwl i) [.int (w.2.2.2.2.2.2 (i + 4)), .int (w.2.2.2.2.2.2 (i + 3)), .int (w.2.2.2.2.2.2 (i + 2)), .int (w.2.2.2.2.2.2 (i + 1)), .ref 401, .int r] (go_mk tx μ1) Z
  refine la (j := 5) dL_law_413 dL_law_414 dL_law_415 dL_law_416 dL_law_417 rfl (by decide) hi hL ?_
  show Go w 544 0 0 mtL_law 418 (lwl i) [.int (w.2.2.2.2.2.2 (i + 5)), .int (w.2.2.2.2.2.2 (i + 4)), .int (w.2.2.2.2.2.2 (i + 3)), .int (w.2.2.2.2.2.2 (i + 2)), .int (w.2.2.2.2.2.2 (i + 1)), .ref 401, .int r] (go_mk tx μ1) Z
  refine pp_callV (m := mtL_law) (as := [.int (w.2.2.2.2.2.2 (i + 1)), .int (w.2.2.2.2.2.2 (i + 2)), .int (w.2.2.2.2.2.2 (i + 3)), .int (w.2.2.2.2.2.2 (i + 4)), .int (w.2.2.2.2.2.2 (i + 5))]) (st := [.int r]) (rv := some (.int r)) (μ1 := μ2) (tx1 := tx) (st1 := [.int r, .int r]) dL_law_418 ll_L_31 sh_401 (by decide) rfl (ctX12_feed h2) rfl (Nat.le_of_ble_eq_true rfl) (Nat.le_of_ble_eq_true rfl) hZ rfl rfl ?_
  show Go w 544 0 0 mtL_law 421 (lwl i) [.int r, .int r] (go_mk tx μ2) Z
  refine go_icmp_eq 1669 dL_law_421 (by decide) (fun _ => K tx μ2 hR2) (fun hc => absurd rfl hc)
theorem lc_4 {w : go_Wd} {tx i : Nat} {μ : PM} {Z : go_ZT} (hZ : go_up Z) (hL : w.2.2.2.2.2.1 ≤ 3072) (hi : i + 6 ≤ w.2.2.2.2.2.1) (hR : RR μ μ) (K : ∀ tx' μ', RR μ' μ' → Go w 544 0 0 mtL_law 1669 (lwl i) [] (go_mk tx' μ') Z) : Go w 544 0 0 mtL_law 426 (lwl i) [] (go_mk tx μ) Z := by
  refine go_aload_n dL_law_426 2 rfl ?_
  refine la (j := 1) dL_law_427 dL_law_428 dL_law_429 dL_law_430 dL_law_431 rfl (by decide) hi hL ?_
  show Go w 544 0 0 mtL_law 432 (lwl i) [.int (w.2.2.2.2.2.2 (i + 1)), .ref 0] (go_mk tx μ) Z
  obtain ⟨r, μ1, μ2, h1, h2, hR2⟩ := RR_both (c_end (w.2.2.2.2.2.2 (i + 1))) hR
  refine pp_callV (m := mtL_law) (as := [.int (w.2.2.2.2.2.2 (i + 1))]) (st := []) (rv := some (.int r)) (μ1 := μ1) (tx1 := tx) (st1 := [.int r]) dL_law_432 ll_L_32 sh_0 (by decide) rfl (ctX11_end (Option.some.inj h1)) rfl (Nat.le_of_ble_eq_true rfl) (Nat.le_of_ble_eq_true rfl) hZ rfl rfl ?_
  show Go w 544 0 0 mtL_law 435 (lwl i) [.int r] (go_mk tx μ1) Z
  refine go_aload_n dL_law_435 1 rfl ?_
  refine la (j := 1) dL_law_436 dL_law_437 dL_law_438 dL_law_439 dL_law_440 rfl (by decide) hi hL ?_
  show Go w 544 0 0 mtL_law 441 (lwl i) [.int (w.2.2.2.2.2.2 (i + 1)), .ref 401, .int r] (go_mk tx μ1) Z
  refine pp_callV (m := mtL_law) (as := [.int (w.2.2.2.2.2.2 (i + 1))]) (st := [.int r]) (rv := some (.int r)) (μ1 := μ2) (tx1 := tx) (st1 := [.int r, .int r]) dL_law_441 ll_L_36 sh_401 (by decide) rfl (ctX12_end (Option.some.inj h2)) rfl (Nat.le_of_ble_eq_true rfl) (Nat.le_of_ble_eq_true rfl) hZ rfl rfl ?_
  show Go w 544 0 0 mtL_law 444 (lwl i) [.int r, .int r] (go_mk tx μ2) Z
  refine go_icmp_eq 1669 dL_law_444 (by decide) (fun _ => K tx μ2 hR2) (fun hc => absurd rfl hc)
theorem lc_5 {w : go_Wd} {tx i : Nat} {μ : PM} {Z : go_ZT} (hZ : go_up Z) (hL : w.2.2.2.2.2.1 ≤ 3072) (hi : i + 6 ≤ w.2.2.2.2.2.1) (hR : RR μ μ) (K : ∀ tx' μ', RR μ' μ' → Go w 544 0 0 mtL_law 1669 (lwl i) [] (go_mk tx' μ') Z) : Go w 544 0 0 mtL_law 449 (lwl i) [] (go_mk tx μ) Z := by
  refine go_aload_n dL_law_449 2 rfl ?_
  obtain ⟨r, o, μ1, μ2, h1, h2, hR2⟩ := RR_text hR
  refine pp_callV (m := mtL_law) (as := []) (st := []) (rv := some (.int r)) (μ1 := μ1) (tx1 := (o.getD tx)) (st1 := [.int r]) dL_law_450 ll_L_37 sh_0 (by decide) rfl (ctX11_text h1) rfl (Nat.le_of_ble_eq_true rfl) (Nat.le_of_ble_eq_true rfl) hZ rfl rfl ?_
  show Go w 544 0 0 mtL_law 453 (lwl i) [.int r] (go_mk (o.getD tx) μ1) Z
  refine go_aload_n dL_law_453 1 rfl ?_
  refine pp_callV (m := mtL_law) (as := []) (st := [.int r]) (rv := some (.int r)) (μ1 := μ2) (tx1 := (o.getD tx)) (st1 := [.int r, .int r]) dL_law_454 ll_L_41 sh_401 (by decide) rfl (ctX12_text h2) rfl (Nat.le_of_ble_eq_true rfl) (Nat.le_of_ble_eq_true rfl) hZ rfl rfl ?_
  show Go w 544 0 0 mtL_law 457 (lwl i) [.int r, .int r] (go_mk (o.getD tx) μ2) Z
  refine go_icmp_eq 1669 dL_law_457 (by decide) (fun _ => K (o.getD tx) μ2 hR2) (fun hc => absurd rfl hc)
theorem lc_6 {w : go_Wd} {tx i : Nat} {μ : PM} {Z : go_ZT} (hZ : go_up Z) (hL : w.2.2.2.2.2.1 ≤ 3072) (hi : i + 6 ≤ w.2.2.2.2.2.1) (hR : RR μ μ) (K : ∀ tx' μ', RR μ' μ' → Go w 544 0 0 mtL_law 1669 (lwl i) [] (go_mk tx' μ') Z) : Go w 544 0 0 mtL_law 462 (lwl i) [] (go_mk tx μ) Z := by
  refine go_aload_n dL_law_462 2 rfl ?_
  refine la (j := 1) dL_law_463 dL_law_464 dL_law_465 dL_law_466 dL_law_467 rfl (by decide) hi hL ?_
  show Go w 544 0 0 mtL_law 468 (lwl i) [.int (w.2.2.2.2.2.2 (i + 1)), .ref 0] (go_mk tx μ) Z
  obtain ⟨r, h1⟩ : ∃ r, fX11_fault μ (w.2.2.2.2.2.2 (i + 1)) = r := ⟨_, rfl⟩
  have h2 := (c_fault (w.2.2.2.2.2.2 (i + 1)) hR).symm.trans h1
  refine pp_callV (m := mtL_law) (as := [.int (w.2.2.2.2.2.2 (i + 1))]) (st := []) (rv := some (.int r)) (μ1 := μ) (tx1 := tx) (st1 := [.int r]) dL_law_468 ll_L_42 sh_0 (by decide) rfl (ctX11_fault h1) rfl (Nat.le_of_ble_eq_true rfl) (Nat.le_of_ble_eq_true rfl) hZ rfl rfl ?_
  show Go w 544 0 0 mtL_law 471 (lwl i) [.int r] (go_mk tx μ) Z
  refine go_aload_n dL_law_471 1 rfl ?_
  refine la (j := 1) dL_law_472 dL_law_473 dL_law_474 dL_law_475 dL_law_476 rfl (by decide) hi hL ?_
  show Go w 544 0 0 mtL_law 477 (lwl i) [.int (w.2.2.2.2.2.2 (i + 1)), .ref 401, .int r] (go_mk tx μ) Z
  refine pp_callV (m := mtL_law) (as := [.int (w.2.2.2.2.2.2 (i + 1))]) (st := [.int r]) (rv := some (.int r)) (μ1 := μ) (tx1 := tx) (st1 := [.int r, .int r]) dL_law_477 ll_L_45 sh_401 (by decide) rfl (ctX12_fault h2) rfl (Nat.le_of_ble_eq_true rfl) (Nat.le_of_ble_eq_true rfl) hZ rfl rfl ?_
  show Go w 544 0 0 mtL_law 480 (lwl i) [.int r, .int r] (go_mk tx μ) Z
  refine go_icmp_eq 1669 dL_law_480 (by decide) (fun _ => K tx μ hR) (fun hc => absurd rfl hc)
theorem lc_7 {w : go_Wd} {tx i : Nat} {μ : PM} {Z : go_ZT} (hZ : go_up Z) (hL : w.2.2.2.2.2.1 ≤ 3072) (hi : i + 6 ≤ w.2.2.2.2.2.1) (hR : RR μ μ) (K : ∀ tx' μ', RR μ' μ' → Go w 544 0 0 mtL_law 1669 (lwl i) [] (go_mk tx' μ') Z) : Go w 544 0 0 mtL_law 485 (lwl i) [] (go_mk tx μ) Z := by
  refine go_aload_n dL_law_485 2 rfl ?_
  refine la (j := 1) dL_law_486 dL_law_487 dL_law_488 dL_law_489 dL_law_490 rfl (by decide) hi hL ?_
  show Go w 544 0 0 mtL_law 491 (lwl i) [.int (w.2.2.2.2.2.2 (i + 1)), .ref 0] (go_mk tx μ) Z
  obtain ⟨r, μ1, μ2, h1, h2, hR2⟩ := RR_both (c_by (w.2.2.2.2.2.2 (i + 1))) hR
  refine pp_callV (m := mtL_law) (as := [.int (w.2.2.2.2.2.2 (i + 1))]) (st := []) (rv := some (.int r)) (μ1 := μ1) (tx1 := tx) (st1 := [.int r]) dL_law_491 ll_L_46 sh_0 (by decide) rfl (ctX11_by (Option.some.inj h1)) rfl (Nat.le_of_ble_eq_true rfl) (Nat.le_of_ble_eq_true rfl) hZ rfl rfl ?_
  show Go w 544 0 0 mtL_law 494 (lwl i) [.int r] (go_mk tx μ1) Z
  refine go_aload_n dL_law_494 1 rfl ?_
  refine la (j := 1) dL_law_495 dL_law_496 dL_law_497 dL_law_498 dL_law_499 rfl (by decide) hi hL ?_
  show Go w 544 0 0 mtL_law 500 (lwl i) [.int (w.2.2.2.2.2.2 (i + 1)), .ref 401, .int r] (go_mk tx μ1) Z
  refine pp_callV (m := mtL_law) (as := [.int (w.2.2.2.2.2.2 (i + 1))]) (st := [.int r]) (rv := some (.int r)) (μ1 := μ2) (tx1 := tx) (st1 := [.int r, .int r]) dL_law_500 ll_L_50 sh_401 (by decide) rfl (ctX12_by (Option.some.inj h2)) rfl (Nat.le_of_ble_eq_true rfl) (Nat.le_of_ble_eq_true rfl) hZ rfl rfl ?_
  show Go w 544 0 0 mtL_law 503 (lwl i) [.int r, .int r] (go_mk tx μ2) Z
  refine go_icmp_eq 1669 dL_law_503 (by decide) (fun _ => K tx μ2 hR2) (fun hc => absurd rfl hc)
theorem lc_8 {w : go_Wd} {tx i : Nat} {μ : PM} {Z : go_ZT} (hZ : go_up Z) (hL : w.2.2.2.2.2.1 ≤ 3072) (hi : i + 6 ≤ w.2.2.2.2.2.1) (hR : RR μ μ) (K : ∀ tx' μ', RR μ' μ' → Go w 544 0 0 mtL_law 1669 (lwl i) [] (go_mk tx' μ') Z) : Go w 544 0 0 mtL_law 508 (lwl i) [] (go_mk tx μ) Z := by
  refine go_aload_n dL_law_508 2 rfl ?_
  refine la (j := 1) dL_law_509 dL_law_510 dL_law_511 dL_law_512 dL_law_513 rfl (by decide) hi hL ?_
  show Go w 544 0 0 mtL_law 514 (lwl i) [.int (w.2.2.2.2.2.2 (i + 1)), .ref 0] (go_mk tx μ) Z
  obtain ⟨r, μ1, μ2, h1, h2, hR2⟩ := RR_both (c_call (w.2.2.2.2.2.2 (i + 1))) hR
  refine pp_callV (m := mtL_law) (as := [.int (w.2.2.2.2.2.2 (i + 1))]) (st := []) (rv := some (.int r)) (μ1 := μ1) (tx1 := tx) (st1 := [.int r]) dL_law_514 ll_L_51 sh_0 (by decide) rfl (ctX11_call h1) rfl (Nat.le_of_ble_eq_true rfl) (Nat.le_of_ble_eq_true rfl) hZ rfl rfl ?_
  show Go w 544 0 0 mtL_law 517 (lwl i) [.int r] (go_mk tx μ1) Z
  refine go_aload_n dL_law_517 1 rfl ?_
  refine la (j := 1) dL_law_518 dL_law_519 dL_law_520 dL_law_521 dL_law_522 rfl (by decide) hi hL ?_
  show Go w 544 0 0 mtL_law 523 (lwl i) [.int (w.2.2.2.2.2.2 (i + 1)), .ref 401, .int r] (go_mk tx μ1) Z
  refine pp_callV (m := mtL_law) (as := [.int (w.2.2.2.2.2.2 (i + 1))]) (st := [.int r]) (rv := some (.int r)) (μ1 := μ2) (tx1 := tx) (st1 := [.int r, .int r]) dL_law_523 ll_L_54 sh_401 (by decide) rfl (ctX12_call h2) rfl (Nat.le_of_ble_eq_true rfl) (Nat.le_of_ble_eq_true rfl) hZ rfl rfl ?_
  show Go w 544 0 0 mtL_law 526 (lwl i) [.int r, .int r] (go_mk tx μ2) Z
  refine go_icmp_eq 1669 dL_law_526 (by decide) (fun _ => K tx μ2 hR2) (fun hc => absurd rfl hc)
theorem lc_9 {w : go_Wd} {tx i : Nat} {μ : PM} {Z : go_ZT} (hZ : go_up Z) (hL : w.2.2.2.2.2.1 ≤ 3072) (hi : i + 6 ≤ w.2.2.2.2.2.1) (hR : RR μ μ) (K : ∀ tx' μ', RR μ' μ' → Go w 544 0 0 mtL_law 1669 (lwl i) [] (go_mk tx' μ') Z) : Go w 544 0 0 mtL_law 531 (lwl i) [] (go_mk tx μ) Z := by
  refine go_aload_n dL_law_531 2 rfl ?_
  refine la (j := 1) dL_law_532 dL_law_533 dL_law_534 dL_law_535 dL_law_536 rfl (by decide) hi hL ?_
  show Go w 544 0 0 mtL_law 537 (lwl i) [.int (w.2.2.2.2.2.2 (i + 1)), .ref 0] (go_mk tx μ) Z
  refine la (j := 2) dL_law_537 dL_law_538 dL_law_539 dL_law_540 dL_law_541 rfl (by decide) hi hL ?_
  refine lb dL_law_542 dL_law_545 dL_law_546 dL_law_549 ?_
  show Go w 544 0 0 mtL_law 550 (lwl i) [.int (if (w.2.2.2.2.2.2 (i + 2)) = 0 then (0 : Int32) else 1), .int (w.2.2.2.2.2.2 (i + 1)), .ref 0] (go_mk tx μ) Z
  obtain ⟨r, μ1, μ2, h1, h2, hR2⟩ := RR_both (c_stone (w.2.2.2.2.2.2 (i + 1)) (if (w.2.2.2.2.2.2 (i + 2)) = 0 then (0 : Int32) else 1)) hR
  refine pp_callV (m := mtL_law) (as := [.int (w.2.2.2.2.2.2 (i + 1)), .int (if (w.2.2.2.2.2.2 (i + 2)) = 0 then (0 : Int32) else 1)]) (st := []) (rv := some (.int r)) (μ1 := μ1) (tx1 := tx) (st1 := [.int r]) dL_law_550 ll_L_55 sh_0 (by decide) rfl (ctX11_stone h1) rfl (Nat.le_of_ble_eq_true rfl) (Nat.le_of_ble_eq_true rfl) hZ rfl rfl ?_
  show Go w 544 0 0 mtL_law 553 (lwl i) [.int r] (go_mk tx μ1) Z
  refine go_aload_n dL_law_553 1 rfl ?_
  refine la (j := 1) dL_law_554 dL_law_555 dL_law_556 dL_law_557 dL_law_558 rfl (by decide) hi hL ?_
  show Go w 544 0 0 mtL_law 559 (lwl i) [.int (w.2.2.2.2.2.2 (i + 1)), .ref 401, .int r] (go_mk tx μ1) Z
  refine la (j := 2) dL_law_559 dL_law_560 dL_law_561 dL_law_562 dL_law_563 rfl (by decide) hi hL ?_
  refine lb dL_law_564 dL_law_567 dL_law_568 dL_law_571 ?_
  show Go w 544 0 0 mtL_law 572 (lwl i) [.int (if (w.2.2.2.2.2.2 (i + 2)) = 0 then (0 : Int32) else 1), .int (w.2.2.2.2.2.2 (i + 1)), .ref 401, .int r] (go_mk tx μ1) Z
  refine pp_callV (m := mtL_law) (as := [.int (w.2.2.2.2.2.2 (i + 1)), .int (if (w.2.2.2.2.2.2 (i + 2)) = 0 then (0 : Int32) else 1)]) (st := [.int r]) (rv := some (.int r)) (μ1 := μ2) (tx1 := tx) (st1 := [.int r, .int r]) dL_law_572 ll_L_58 sh_401 (by decide) rfl (ctX12_stone h2) rfl (Nat.le_of_ble_eq_true rfl) (Nat.le_of_ble_eq_true rfl) hZ rfl rfl ?_
  show Go w 544 0 0 mtL_law 575 (lwl i) [.int r, .int r] (go_mk tx μ2) Z
  refine go_icmp_eq 1669 dL_law_575 (by decide) (fun _ => K tx μ2 hR2) (fun hc => absurd rfl hc)
theorem lc_10 {w : go_Wd} {tx i : Nat} {μ : PM} {Z : go_ZT} (hZ : go_up Z) (hL : w.2.2.2.2.2.1 ≤ 3072) (hi : i + 6 ≤ w.2.2.2.2.2.1) (hR : RR μ μ) (K : ∀ tx' μ', RR μ' μ' → Go w 544 0 0 mtL_law 1669 (lwl i) [] (go_mk tx' μ') Z) : Go w 544 0 0 mtL_law 580 (lwl i) [] (go_mk tx μ) Z := by
  refine go_aload_n dL_law_580 2 rfl ?_
  refine la (j := 1) dL_law_581 dL_law_582 dL_law_583 dL_law_584 dL_law_585 rfl (by decide) hi hL ?_
  show Go w 544 0 0 mtL_law 586 (lwl i) [.int (w.2.2.2.2.2.2 (i + 1)), .ref 0] (go_mk tx μ) Z
  refine la (j := 2) dL_law_586 dL_law_587 dL_law_588 dL_law_589 dL_law_590 rfl (by decide) hi hL ?_
  show Go w 544 0 0 mtL_law 591 (lwl i) [.int (w.2.2.2.2.2.2 (i + 2)), .int (w.2.2.2.2.2.2 (i + 1)), .ref 0] (go_mk tx μ) Z
  obtain ⟨r, μ1, μ2, h1, h2, hR2⟩ := RR_both (c_stand (w.2.2.2.2.2.2 (i + 1)) (w.2.2.2.2.2.2 (i + 2))) hR
  refine pp_callV (m := mtL_law) (as := [.int (w.2.2.2.2.2.2 (i + 1)), .int (w.2.2.2.2.2.2 (i + 2))]) (st := []) (rv := some (.int r)) (μ1 := μ1) (tx1 := tx) (st1 := [.int r]) dL_law_591 ll_L_59 sh_0 (by decide) rfl (ctX11_stand h1) rfl (Nat.le_of_ble_eq_true rfl) (Nat.le_of_ble_eq_true rfl) hZ rfl rfl ?_
  show Go w 544 0 0 mtL_law 594 (lwl i) [.int r] (go_mk tx μ1) Z
  refine go_aload_n dL_law_594 1 rfl ?_
  refine la (j := 1) dL_law_595 dL_law_596 dL_law_597 dL_law_598 dL_law_599 rfl (by decide) hi hL ?_
  show Go w 544 0 0 mtL_law 600 (lwl i) [.int (w.2.2.2.2.2.2 (i + 1)), .ref 401, .int r] (go_mk tx μ1) Z
  refine la (j := 2) dL_law_600 dL_law_601 dL_law_602 dL_law_603 dL_law_604 rfl (by decide) hi hL ?_
  show Go w 544 0 0 mtL_law 605 (lwl i) [.int (w.2.2.2.2.2.2 (i + 2)), .int (w.2.2.2.2.2.2 (i + 1)), .ref 401, .int r] (go_mk tx μ1) Z
  refine pp_callV (m := mtL_law) (as := [.int (w.2.2.2.2.2.2 (i + 1)), .int (w.2.2.2.2.2.2 (i + 2))]) (st := [.int r]) (rv := some (.int r)) (μ1 := μ2) (tx1 := tx) (st1 := [.int r, .int r]) dL_law_605 ll_L_63 sh_401 (by decide) rfl (ctX12_stand h2) rfl (Nat.le_of_ble_eq_true rfl) (Nat.le_of_ble_eq_true rfl) hZ rfl rfl ?_
  show Go w 544 0 0 mtL_law 608 (lwl i) [.int r, .int r] (go_mk tx μ2) Z
  refine go_icmp_eq 1669 dL_law_608 (by decide) (fun _ => K tx μ2 hR2) (fun hc => absurd rfl hc)
theorem lc_11 {w : go_Wd} {tx i : Nat} {μ : PM} {Z : go_ZT} (hZ : go_up Z) (hL : w.2.2.2.2.2.1 ≤ 3072) (hi : i + 6 ≤ w.2.2.2.2.2.1) (hR : RR μ μ) (K : ∀ tx' μ', RR μ' μ' → Go w 544 0 0 mtL_law 1669 (lwl i) [] (go_mk tx' μ') Z) : Go w 544 0 0 mtL_law 613 (lwl i) [] (go_mk tx μ) Z := by
  refine go_aload_n dL_law_613 2 rfl ?_
  refine la (j := 1) dL_law_614 dL_law_615 dL_law_616 dL_law_617 dL_law_618 rfl (by decide) hi hL ?_
  show Go w 544 0 0 mtL_law 619 (lwl i) [.int (w.2.2.2.2.2.2 (i + 1)), .ref 0] (go_mk tx μ) Z
  obtain ⟨r, μ1, μ2, h1, h2, hR2⟩ := RR_both (c_sink (w.2.2.2.2.2.2 (i + 1))) hR
  refine pp_callV (m := mtL_law) (as := [.int (w.2.2.2.2.2.2 (i + 1))]) (st := []) (rv := some (.int r)) (μ1 := μ1) (tx1 := tx) (st1 := [.int r]) dL_law_619 ll_L_64 sh_0 (by decide) rfl (ctX11_sink h1) rfl (Nat.le_of_ble_eq_true rfl) (Nat.le_of_ble_eq_true rfl) hZ rfl rfl ?_
  show Go w 544 0 0 mtL_law 622 (lwl i) [.int r] (go_mk tx μ1) Z
  refine go_aload_n dL_law_622 1 rfl ?_
  refine la (j := 1) dL_law_623 dL_law_624 dL_law_625 dL_law_626 dL_law_627 rfl (by decide) hi hL ?_
  show Go w 544 0 0 mtL_law 628 (lwl i) [.int (w.2.2.2.2.2.2 (i + 1)), .ref 401, .int r] (go_mk tx μ1) Z
  refine pp_callV (m := mtL_law) (as := [.int (w.2.2.2.2.2.2 (i + 1))]) (st := [.int r]) (rv := some (.int r)) (μ1 := μ2) (tx1 := tx) (st1 := [.int r, .int r]) dL_law_628 ll_L_67 sh_401 (by decide) rfl (ctX12_sink h2) rfl (Nat.le_of_ble_eq_true rfl) (Nat.le_of_ble_eq_true rfl) hZ rfl rfl ?_
  show Go w 544 0 0 mtL_law 631 (lwl i) [.int r, .int r] (go_mk tx μ2) Z
  refine go_icmp_eq 1669 dL_law_631 (by decide) (fun _ => K tx μ2 hR2) (fun hc => absurd rfl hc)
theorem lc_12 {w : go_Wd} {tx i : Nat} {μ : PM} {Z : go_ZT} (hZ : go_up Z) (hL : w.2.2.2.2.2.1 ≤ 3072) (hi : i + 6 ≤ w.2.2.2.2.2.1) (hR : RR μ μ) (K : ∀ tx' μ', RR μ' μ' → Go w 544 0 0 mtL_law 1669 (lwl i) [] (go_mk tx' μ') Z) : Go w 544 0 0 mtL_law 636 (lwl i) [] (go_mk tx μ) Z := by
  refine go_aload_n dL_law_636 2 rfl ?_
  refine la (j := 1) dL_law_637 dL_law_638 dL_law_639 dL_law_640 dL_law_641 rfl (by decide) hi hL ?_
  show Go w 544 0 0 mtL_law 642 (lwl i) [.int (w.2.2.2.2.2.2 (i + 1)), .ref 0] (go_mk tx μ) Z
  obtain ⟨r, μ1, μ2, h1, h2, hR2⟩ := RR_both (c_hour (w.2.2.2.2.2.2 (i + 1))) hR
  refine pp_callV (m := mtL_law) (as := [.int (w.2.2.2.2.2.2 (i + 1))]) (st := []) (rv := some (.int r)) (μ1 := μ1) (tx1 := tx) (st1 := [.int r]) dL_law_642 ll_L_68 sh_0 (by decide) rfl (ctX11_hour h1) rfl (Nat.le_of_ble_eq_true rfl) (Nat.le_of_ble_eq_true rfl) hZ rfl rfl ?_
  show Go w 544 0 0 mtL_law 645 (lwl i) [.int r] (go_mk tx μ1) Z
  refine go_aload_n dL_law_645 1 rfl ?_
  refine la (j := 1) dL_law_646 dL_law_647 dL_law_648 dL_law_649 dL_law_650 rfl (by decide) hi hL ?_
  show Go w 544 0 0 mtL_law 651 (lwl i) [.int (w.2.2.2.2.2.2 (i + 1)), .ref 401, .int r] (go_mk tx μ1) Z
  refine pp_callV (m := mtL_law) (as := [.int (w.2.2.2.2.2.2 (i + 1))]) (st := [.int r]) (rv := some (.int r)) (μ1 := μ2) (tx1 := tx) (st1 := [.int r, .int r]) dL_law_651 ll_L_71 sh_401 (by decide) rfl (ctX12_hour h2) rfl (Nat.le_of_ble_eq_true rfl) (Nat.le_of_ble_eq_true rfl) hZ rfl rfl ?_
  show Go w 544 0 0 mtL_law 654 (lwl i) [.int r, .int r] (go_mk tx μ2) Z
  refine go_icmp_eq 1669 dL_law_654 (by decide) (fun _ => K tx μ2 hR2) (fun hc => absurd rfl hc)
theorem lc_13 {w : go_Wd} {tx i : Nat} {μ : PM} {Z : go_ZT} (hZ : go_up Z) (hL : w.2.2.2.2.2.1 ≤ 3072) (hi : i + 6 ≤ w.2.2.2.2.2.1) (hR : RR μ μ) (K : ∀ tx' μ', RR μ' μ' → Go w 544 0 0 mtL_law 1669 (lwl i) [] (go_mk tx' μ') Z) : Go w 544 0 0 mtL_law 659 (lwl i) [] (go_mk tx μ) Z := by
  refine go_aload_n dL_law_659 2 rfl ?_
  refine la (j := 1) dL_law_660 dL_law_661 dL_law_662 dL_law_663 dL_law_664 rfl (by decide) hi hL ?_
  show Go w 544 0 0 mtL_law 665 (lwl i) [.int (w.2.2.2.2.2.2 (i + 1)), .ref 0] (go_mk tx μ) Z
  obtain ⟨r, μ1, μ2, h1, h2, hR2⟩ := RR_both (c_played (w.2.2.2.2.2.2 (i + 1))) hR
  refine pp_callV (m := mtL_law) (as := [.int (w.2.2.2.2.2.2 (i + 1))]) (st := []) (rv := some (.int r)) (μ1 := μ1) (tx1 := tx) (st1 := [.int r]) dL_law_665 ll_L_72 sh_0 (by decide) rfl (ctX11_played h1) rfl (Nat.le_of_ble_eq_true rfl) (Nat.le_of_ble_eq_true rfl) hZ rfl rfl ?_
  show Go w 544 0 0 mtL_law 668 (lwl i) [.int r] (go_mk tx μ1) Z
  refine go_aload_n dL_law_668 1 rfl ?_
  refine la (j := 1) dL_law_669 dL_law_670 dL_law_671 dL_law_672 dL_law_673 rfl (by decide) hi hL ?_
  show Go w 544 0 0 mtL_law 674 (lwl i) [.int (w.2.2.2.2.2.2 (i + 1)), .ref 401, .int r] (go_mk tx μ1) Z
  refine pp_callV (m := mtL_law) (as := [.int (w.2.2.2.2.2.2 (i + 1))]) (st := [.int r]) (rv := some (.int r)) (μ1 := μ2) (tx1 := tx) (st1 := [.int r, .int r]) dL_law_674 ll_L_75 sh_401 (by decide) rfl (ctX12_played h2) rfl (Nat.le_of_ble_eq_true rfl) (Nat.le_of_ble_eq_true rfl) hZ rfl rfl ?_
  show Go w 544 0 0 mtL_law 677 (lwl i) [.int r, .int r] (go_mk tx μ2) Z
  refine go_icmp_eq 1669 dL_law_677 (by decide) (fun _ => K tx μ2 hR2) (fun hc => absurd rfl hc)
theorem lc_14 {w : go_Wd} {tx i : Nat} {μ : PM} {Z : go_ZT} (hZ : go_up Z) (hL : w.2.2.2.2.2.1 ≤ 3072) (hi : i + 6 ≤ w.2.2.2.2.2.1) (hR : RR μ μ) (K : ∀ tx' μ', RR μ' μ' → Go w 544 0 0 mtL_law 1669 (lwl i) [] (go_mk tx' μ') Z) : Go w 544 0 0 mtL_law 682 (lwl i) [] (go_mk tx μ) Z := by
  refine go_aload_n dL_law_682 2 rfl ?_
  refine la (j := 1) dL_law_683 dL_law_684 dL_law_685 dL_law_686 dL_law_687 rfl (by decide) hi hL ?_
  show Go w 544 0 0 mtL_law 688 (lwl i) [.int (w.2.2.2.2.2.2 (i + 1)), .ref 0] (go_mk tx μ) Z
  refine la (j := 2) dL_law_688 dL_law_689 dL_law_690 dL_law_691 dL_law_692 rfl (by decide) hi hL ?_
  show Go w 544 0 0 mtL_law 693 (lwl i) [.int (w.2.2.2.2.2.2 (i + 2)), .int (w.2.2.2.2.2.2 (i + 1)), .ref 0] (go_mk tx μ) Z
  obtain ⟨r, μ1, μ2, h1, h2, hR2⟩ := RR_both (c_springs (w.2.2.2.2.2.2 (i + 1)) (w.2.2.2.2.2.2 (i + 2))) hR
  refine pp_callV (m := mtL_law) (as := [.int (w.2.2.2.2.2.2 (i + 1)), .int (w.2.2.2.2.2.2 (i + 2))]) (st := []) (rv := some (.int r)) (μ1 := μ1) (tx1 := tx) (st1 := [.int r]) dL_law_693 ll_L_76 sh_0 (by decide) rfl (ctX11_springs h1) rfl (Nat.le_of_ble_eq_true rfl) (Nat.le_of_ble_eq_true rfl) hZ rfl rfl ?_
  show Go w 544 0 0 mtL_law 696 (lwl i) [.int r] (go_mk tx μ1) Z
  refine go_aload_n dL_law_696 1 rfl ?_
  refine la (j := 1) dL_law_697 dL_law_698 dL_law_699 dL_law_700 dL_law_701 rfl (by decide) hi hL ?_
  show Go w 544 0 0 mtL_law 702 (lwl i) [.int (w.2.2.2.2.2.2 (i + 1)), .ref 401, .int r] (go_mk tx μ1) Z
  refine la (j := 2) dL_law_702 dL_law_703 dL_law_704 dL_law_705 dL_law_706 rfl (by decide) hi hL ?_
  show Go w 544 0 0 mtL_law 707 (lwl i) [.int (w.2.2.2.2.2.2 (i + 2)), .int (w.2.2.2.2.2.2 (i + 1)), .ref 401, .int r] (go_mk tx μ1) Z
  refine pp_callV (m := mtL_law) (as := [.int (w.2.2.2.2.2.2 (i + 1)), .int (w.2.2.2.2.2.2 (i + 2))]) (st := [.int r]) (rv := some (.int r)) (μ1 := μ2) (tx1 := tx) (st1 := [.int r, .int r]) dL_law_707 ll_L_79 sh_401 (by decide) rfl (ctX12_springs h2) rfl (Nat.le_of_ble_eq_true rfl) (Nat.le_of_ble_eq_true rfl) hZ rfl rfl ?_
  show Go w 544 0 0 mtL_law 710 (lwl i) [.int r, .int r] (go_mk tx μ2) Z
  refine go_icmp_eq 1669 dL_law_710 (by decide) (fun _ => K tx μ2 hR2) (fun hc => absurd rfl hc)
theorem lc_15 {w : go_Wd} {tx i : Nat} {μ : PM} {Z : go_ZT} (hZ : go_up Z) (hL : w.2.2.2.2.2.1 ≤ 3072) (hi : i + 6 ≤ w.2.2.2.2.2.1) (hR : RR μ μ) (K : ∀ tx' μ', RR μ' μ' → Go w 544 0 0 mtL_law 1669 (lwl i) [] (go_mk tx' μ') Z) : Go w 544 0 0 mtL_law 715 (lwl i) [] (go_mk tx μ) Z := by
  refine go_aload_n dL_law_715 2 rfl ?_
  obtain ⟨r, μ1, μ2, h1, h2, hR2⟩ := RR_both (c_undo) hR
  refine pp_callV (m := mtL_law) (as := []) (st := []) (rv := some (.int r)) (μ1 := μ1) (tx1 := tx) (st1 := [.int r]) dL_law_716 ll_L_80 sh_0 (by decide) rfl (ctX11_undo h1) rfl (Nat.le_of_ble_eq_true rfl) (Nat.le_of_ble_eq_true rfl) hZ rfl rfl ?_
  show Go w 544 0 0 mtL_law 719 (lwl i) [.int r] (go_mk tx μ1) Z
  refine go_aload_n dL_law_719 1 rfl ?_
  refine pp_callV (m := mtL_law) (as := []) (st := [.int r]) (rv := some (.int r)) (μ1 := μ2) (tx1 := tx) (st1 := [.int r, .int r]) dL_law_720 ll_L_83 sh_401 (by decide) rfl (ctX12_undo h2) rfl (Nat.le_of_ble_eq_true rfl) (Nat.le_of_ble_eq_true rfl) hZ rfl rfl ?_
  show Go w 544 0 0 mtL_law 723 (lwl i) [.int r, .int r] (go_mk tx μ2) Z
  refine go_icmp_eq 1669 dL_law_723 (by decide) (fun _ => K tx μ2 hR2) (fun hc => absurd rfl hc)
theorem lc_16 {w : go_Wd} {tx i : Nat} {μ : PM} {Z : go_ZT} (hZ : go_up Z) (hL : w.2.2.2.2.2.1 ≤ 3072) (hi : i + 6 ≤ w.2.2.2.2.2.1) (hR : RR μ μ) (K : ∀ tx' μ', RR μ' μ' → Go w 544 0 0 mtL_law 1669 (lwl i) [] (go_mk tx' μ') Z) : Go w 544 0 0 mtL_law 728 (lwl i) [] (go_mk tx μ) Z := by
  refine go_aload_n dL_law_728 2 rfl ?_
  refine la (j := 1) dL_law_729 dL_law_730 dL_law_731 dL_law_732 dL_law_733 rfl (by decide) hi hL ?_
  show Go w 544 0 0 mtL_law 734 (lwl i) [.int (w.2.2.2.2.2.2 (i + 1)), .ref 0] (go_mk tx μ) Z
  refine la (j := 2) dL_law_734 dL_law_735 dL_law_736 dL_law_737 dL_law_738 rfl (by decide) hi hL ?_
  show Go w 544 0 0 mtL_law 739 (lwl i) [.int (w.2.2.2.2.2.2 (i + 2)), .int (w.2.2.2.2.2.2 (i + 1)), .ref 0] (go_mk tx μ) Z
  obtain ⟨r, h1, h2⟩ := c_of (w.2.2.2.2.2.2 (i + 1)) (w.2.2.2.2.2.2 (i + 2)) hR
  refine pp_callV (m := mtL_law) (as := [.int (w.2.2.2.2.2.2 (i + 1)), .int (w.2.2.2.2.2.2 (i + 2))]) (st := []) (rv := some (.int r)) (μ1 := μ) (tx1 := tx) (st1 := [.int r]) dL_law_739 ll_L_84 sh_0 (by decide) rfl (ctX11_of h1) rfl (Nat.le_of_ble_eq_true rfl) (Nat.le_of_ble_eq_true rfl) hZ rfl rfl ?_
  show Go w 544 0 0 mtL_law 742 (lwl i) [.int r] (go_mk tx μ) Z
  refine go_aload_n dL_law_742 1 rfl ?_
  refine la (j := 1) dL_law_743 dL_law_744 dL_law_745 dL_law_746 dL_law_747 rfl (by decide) hi hL ?_
  show Go w 544 0 0 mtL_law 748 (lwl i) [.int (w.2.2.2.2.2.2 (i + 1)), .ref 401, .int r] (go_mk tx μ) Z
  refine la (j := 2) dL_law_748 dL_law_749 dL_law_750 dL_law_751 dL_law_752 rfl (by decide) hi hL ?_
  show Go w 544 0 0 mtL_law 753 (lwl i) [.int (w.2.2.2.2.2.2 (i + 2)), .int (w.2.2.2.2.2.2 (i + 1)), .ref 401, .int r] (go_mk tx μ) Z
  refine pp_callV (m := mtL_law) (as := [.int (w.2.2.2.2.2.2 (i + 1)), .int (w.2.2.2.2.2.2 (i + 2))]) (st := [.int r]) (rv := some (.int r)) (μ1 := μ) (tx1 := tx) (st1 := [.int r, .int r]) dL_law_753 ll_L_87 sh_401 (by decide) rfl (ctX12_of h2) rfl (Nat.le_of_ble_eq_true rfl) (Nat.le_of_ble_eq_true rfl) hZ rfl rfl ?_
  show Go w 544 0 0 mtL_law 756 (lwl i) [.int r, .int r] (go_mk tx μ) Z
  refine go_icmp_eq 1669 dL_law_756 (by decide) (fun _ => K tx μ hR) (fun hc => absurd rfl hc)
theorem lc_17 {w : go_Wd} {tx i : Nat} {μ : PM} {Z : go_ZT} (hZ : go_up Z) (hL : w.2.2.2.2.2.1 ≤ 3072) (hi : i + 6 ≤ w.2.2.2.2.2.1) (hR : RR μ μ) (K : ∀ tx' μ', RR μ' μ' → Go w 544 0 0 mtL_law 1669 (lwl i) [] (go_mk tx' μ') Z) : Go w 544 0 0 mtL_law 761 (lwl i) [] (go_mk tx μ) Z := by
  refine go_aload_n dL_law_761 2 rfl ?_
  refine la (j := 1) dL_law_762 dL_law_763 dL_law_764 dL_law_765 dL_law_766 rfl (by decide) hi hL ?_
  show Go w 544 0 0 mtL_law 767 (lwl i) [.int (w.2.2.2.2.2.2 (i + 1)), .ref 0] (go_mk tx μ) Z
  refine la (j := 2) dL_law_767 dL_law_768 dL_law_769 dL_law_770 dL_law_771 rfl (by decide) hi hL ?_
  show Go w 544 0 0 mtL_law 772 (lwl i) [.int (w.2.2.2.2.2.2 (i + 2)), .int (w.2.2.2.2.2.2 (i + 1)), .ref 0] (go_mk tx μ) Z
  obtain ⟨r, h1, h2⟩ := c_ofFamily (w.2.2.2.2.2.2 (i + 1)) (w.2.2.2.2.2.2 (i + 2)) hR
  refine pp_callV (m := mtL_law) (as := [.int (w.2.2.2.2.2.2 (i + 1)), .int (w.2.2.2.2.2.2 (i + 2))]) (st := []) (rv := some (.int r)) (μ1 := μ) (tx1 := tx) (st1 := [.int r]) dL_law_772 ll_L_88 sh_0 (by decide) rfl (ctX11_ofFamily h1) rfl (Nat.le_of_ble_eq_true rfl) (Nat.le_of_ble_eq_true rfl) hZ rfl rfl ?_
  show Go w 544 0 0 mtL_law 775 (lwl i) [.int r] (go_mk tx μ) Z
  refine go_aload_n dL_law_775 1 rfl ?_
  refine la (j := 1) dL_law_776 dL_law_777 dL_law_778 dL_law_779 dL_law_780 rfl (by decide) hi hL ?_
  show Go w 544 0 0 mtL_law 781 (lwl i) [.int (w.2.2.2.2.2.2 (i + 1)), .ref 401, .int r] (go_mk tx μ) Z
  refine la (j := 2) dL_law_781 dL_law_782 dL_law_783 dL_law_784 dL_law_785 rfl (by decide) hi hL ?_
  show Go w 544 0 0 mtL_law 786 (lwl i) [.int (w.2.2.2.2.2.2 (i + 2)), .int (w.2.2.2.2.2.2 (i + 1)), .ref 401, .int r] (go_mk tx μ) Z
  refine pp_callV (m := mtL_law) (as := [.int (w.2.2.2.2.2.2 (i + 1)), .int (w.2.2.2.2.2.2 (i + 2))]) (st := [.int r]) (rv := some (.int r)) (μ1 := μ) (tx1 := tx) (st1 := [.int r, .int r]) dL_law_786 ll_L_91 sh_401 (by decide) rfl (ctX12_ofFamily h2) rfl (Nat.le_of_ble_eq_true rfl) (Nat.le_of_ble_eq_true rfl) hZ rfl rfl ?_
  show Go w 544 0 0 mtL_law 789 (lwl i) [.int r, .int r] (go_mk tx μ) Z
  refine go_icmp_eq 1669 dL_law_789 (by decide) (fun _ => K tx μ hR) (fun hc => absurd rfl hc)
theorem lc_18 {w : go_Wd} {tx i : Nat} {μ : PM} {Z : go_ZT} (hZ : go_up Z) (hL : w.2.2.2.2.2.1 ≤ 3072) (hi : i + 6 ≤ w.2.2.2.2.2.1) (hR : RR μ μ) (K : ∀ tx' μ', RR μ' μ' → Go w 544 0 0 mtL_law 1669 (lwl i) [] (go_mk tx' μ') Z) : Go w 544 0 0 mtL_law 794 (lwl i) [] (go_mk tx μ) Z := by
  refine go_aload_n dL_law_794 2 rfl ?_
  refine la (j := 1) dL_law_795 dL_law_796 dL_law_797 dL_law_798 dL_law_799 rfl (by decide) hi hL ?_
  show Go w 544 0 0 mtL_law 800 (lwl i) [.int (w.2.2.2.2.2.2 (i + 1)), .ref 0] (go_mk tx μ) Z
  refine la (j := 2) dL_law_800 dL_law_801 dL_law_802 dL_law_803 dL_law_804 rfl (by decide) hi hL ?_
  show Go w 544 0 0 mtL_law 805 (lwl i) [.int (w.2.2.2.2.2.2 (i + 2)), .int (w.2.2.2.2.2.2 (i + 1)), .ref 0] (go_mk tx μ) Z
  refine la (j := 3) dL_law_805 dL_law_806 dL_law_807 dL_law_808 dL_law_809 rfl (by decide) hi hL ?_
  show Go w 544 0 0 mtL_law 810 (lwl i) [.int (w.2.2.2.2.2.2 (i + 3)), .int (w.2.2.2.2.2.2 (i + 2)), .int (w.2.2.2.2.2.2 (i + 1)), .ref 0] (go_mk tx μ) Z
  obtain ⟨r, μ1, μ2, h1, h2, hR2⟩ := RR_both (c_law (w.2.2.2.2.2.2 (i + 1)) (w.2.2.2.2.2.2 (i + 2)) (w.2.2.2.2.2.2 (i + 3))) hR
  refine pp_callV (m := mtL_law) (as := [.int (w.2.2.2.2.2.2 (i + 1)), .int (w.2.2.2.2.2.2 (i + 2)), .int (w.2.2.2.2.2.2 (i + 3))]) (st := []) (rv := some (.int r)) (μ1 := μ1) (tx1 := tx) (st1 := [.int r]) dL_law_810 ll_L_92 sh_0 (by decide) rfl (ctX11_law h1) rfl (Nat.le_of_ble_eq_true rfl) (Nat.le_of_ble_eq_true rfl) hZ rfl rfl ?_
  show Go w 544 0 0 mtL_law 813 (lwl i) [.int r] (go_mk tx μ1) Z
  refine go_aload_n dL_law_813 1 rfl ?_
  refine la (j := 1) dL_law_814 dL_law_815 dL_law_816 dL_law_817 dL_law_818 rfl (by decide) hi hL ?_
  show Go w 544 0 0 mtL_law 819 (lwl i) [.int (w.2.2.2.2.2.2 (i + 1)), .ref 401, .int r] (go_mk tx μ1) Z
  refine la (j := 2) dL_law_819 dL_law_820 dL_law_821 dL_law_822 dL_law_823 rfl (by decide) hi hL ?_
  show Go w 544 0 0 mtL_law 824 (lwl i) [.int (w.2.2.2.2.2.2 (i + 2)), .int (w.2.2.2.2.2.2 (i + 1)), .ref 401, .int r] (go_mk tx μ1) Z
  refine la (j := 3) dL_law_824 dL_law_825 dL_law_826 dL_law_827 dL_law_828 rfl (by decide) hi hL ?_
  show Go w 544 0 0 mtL_law 829 (lwl i) [.int (w.2.2.2.2.2.2 (i + 3)), .int (w.2.2.2.2.2.2 (i + 2)), .int (w.2.2.2.2.2.2 (i + 1)), .ref 401, .int r] (go_mk tx μ1) Z
  refine pp_callV (m := mtL_law) (as := [.int (w.2.2.2.2.2.2 (i + 1)), .int (w.2.2.2.2.2.2 (i + 2)), .int (w.2.2.2.2.2.2 (i + 3))]) (st := [.int r]) (rv := some (.int r)) (μ1 := μ2) (tx1 := tx) (st1 := [.int r, .int r]) dL_law_829 ll_L_96 sh_401 (by decide) rfl (ctX12_law h2) rfl (Nat.le_of_ble_eq_true rfl) (Nat.le_of_ble_eq_true rfl) hZ rfl rfl ?_
  show Go w 544 0 0 mtL_law 832 (lwl i) [.int r, .int r] (go_mk tx μ2) Z
  refine go_icmp_eq 1669 dL_law_832 (by decide) (fun _ => K tx μ2 hR2) (fun hc => absurd rfl hc)
theorem lc_19 {w : go_Wd} {tx i : Nat} {μ : PM} {Z : go_ZT} (hZ : go_up Z) (hL : w.2.2.2.2.2.1 ≤ 3072) (hi : i + 6 ≤ w.2.2.2.2.2.1) (hR : RR μ μ) (K : ∀ tx' μ', RR μ' μ' → Go w 544 0 0 mtL_law 1669 (lwl i) [] (go_mk tx' μ') Z) : Go w 544 0 0 mtL_law 837 (lwl i) [] (go_mk tx μ) Z := by
  refine go_aload_n dL_law_837 2 rfl ?_
  refine la (j := 1) dL_law_838 dL_law_839 dL_law_840 dL_law_841 dL_law_842 rfl (by decide) hi hL ?_
  show Go w 544 0 0 mtL_law 843 (lwl i) [.int (w.2.2.2.2.2.2 (i + 1)), .ref 0] (go_mk tx μ) Z
  obtain ⟨r, h1⟩ : ∃ r, fX11_is μ (w.2.2.2.2.2.2 (i + 1)) = r := ⟨_, rfl⟩
  have h2 := c_is (w.2.2.2.2.2.2 (i + 1)) hR
  rw [h1] at h2
  refine pp_callV (m := mtL_law) (as := [.int (w.2.2.2.2.2.2 (i + 1))]) (st := []) (rv := some (.int r)) (μ1 := μ) (tx1 := tx) (st1 := [.int r]) dL_law_843 ll_L_97 sh_0 (by decide) rfl (ctX11_is h1) rfl (Nat.le_of_ble_eq_true rfl) (Nat.le_of_ble_eq_true rfl) hZ rfl rfl ?_
  show Go w 544 0 0 mtL_law 846 (lwl i) [.int r] (go_mk tx μ) Z
  refine go_aload_n dL_law_846 1 rfl ?_
  refine la (j := 1) dL_law_847 dL_law_848 dL_law_849 dL_law_850 dL_law_851 rfl (by decide) hi hL ?_
  show Go w 544 0 0 mtL_law 852 (lwl i) [.int (w.2.2.2.2.2.2 (i + 1)), .ref 401, .int r] (go_mk tx μ) Z
  refine pp_callV (m := mtL_law) (as := [.int (w.2.2.2.2.2.2 (i + 1))]) (st := [.int r]) (rv := some (.int r)) (μ1 := μ) (tx1 := tx) (st1 := [.int r, .int r]) dL_law_852 ll_L_100 sh_401 (by decide) rfl (ctX12_is h2) rfl (Nat.le_of_ble_eq_true rfl) (Nat.le_of_ble_eq_true rfl) hZ rfl rfl ?_
  show Go w 544 0 0 mtL_law 855 (lwl i) [.int r, .int r] (go_mk tx μ) Z
  refine go_icmp_eq 1669 dL_law_855 (by decide) (fun _ => K tx μ hR) (fun hc => absurd rfl hc)
theorem lc_20 {w : go_Wd} {tx i : Nat} {μ : PM} {Z : go_ZT} (hZ : go_up Z) (hL : w.2.2.2.2.2.1 ≤ 3072) (hi : i + 6 ≤ w.2.2.2.2.2.1) (hR : RR μ μ) (K : ∀ tx' μ', RR μ' μ' → Go w 544 0 0 mtL_law 1669 (lwl i) [] (go_mk tx' μ') Z) : Go w 544 0 0 mtL_law 860 (lwl i) [] (go_mk tx μ) Z := by
  refine go_aload_n dL_law_860 2 rfl ?_
  refine la (j := 1) dL_law_861 dL_law_862 dL_law_863 dL_law_864 dL_law_865 rfl (by decide) hi hL ?_
  show Go w 544 0 0 mtL_law 866 (lwl i) [.int (w.2.2.2.2.2.2 (i + 1)), .ref 0] (go_mk tx μ) Z
  refine la (j := 2) dL_law_866 dL_law_867 dL_law_868 dL_law_869 dL_law_870 rfl (by decide) hi hL ?_
  show Go w 544 0 0 mtL_law 871 (lwl i) [.int (w.2.2.2.2.2.2 (i + 2)), .int (w.2.2.2.2.2.2 (i + 1)), .ref 0] (go_mk tx μ) Z
  obtain ⟨r, h1, h2⟩ := c_book (w.2.2.2.2.2.2 (i + 1)) (w.2.2.2.2.2.2 (i + 2)) hR
  refine pp_callV (m := mtL_law) (as := [.int (w.2.2.2.2.2.2 (i + 1)), .int (w.2.2.2.2.2.2 (i + 2))]) (st := []) (rv := some (.int r)) (μ1 := μ) (tx1 := tx) (st1 := [.int r]) dL_law_871 ll_L_101 sh_0 (by decide) rfl (ctX11_book h1) rfl (Nat.le_of_ble_eq_true rfl) (Nat.le_of_ble_eq_true rfl) hZ rfl rfl ?_
  show Go w 544 0 0 mtL_law 874 (lwl i) [.int r] (go_mk tx μ) Z
  refine go_aload_n dL_law_874 1 rfl ?_
  refine la (j := 1) dL_law_875 dL_law_876 dL_law_877 dL_law_878 dL_law_879 rfl (by decide) hi hL ?_
  show Go w 544 0 0 mtL_law 880 (lwl i) [.int (w.2.2.2.2.2.2 (i + 1)), .ref 401, .int r] (go_mk tx μ) Z
  refine la (j := 2) dL_law_880 dL_law_881 dL_law_882 dL_law_883 dL_law_884 rfl (by decide) hi hL ?_
  show Go w 544 0 0 mtL_law 885 (lwl i) [.int (w.2.2.2.2.2.2 (i + 2)), .int (w.2.2.2.2.2.2 (i + 1)), .ref 401, .int r] (go_mk tx μ) Z
  refine pp_callV (m := mtL_law) (as := [.int (w.2.2.2.2.2.2 (i + 1)), .int (w.2.2.2.2.2.2 (i + 2))]) (st := [.int r]) (rv := some (.int r)) (μ1 := μ) (tx1 := tx) (st1 := [.int r, .int r]) dL_law_885 ll_L_104 sh_401 (by decide) rfl (ctX12_book h2) rfl (Nat.le_of_ble_eq_true rfl) (Nat.le_of_ble_eq_true rfl) hZ rfl rfl ?_
  show Go w 544 0 0 mtL_law 888 (lwl i) [.int r, .int r] (go_mk tx μ) Z
  refine go_icmp_eq 1669 dL_law_888 (by decide) (fun _ => K tx μ hR) (fun hc => absurd rfl hc)
theorem lc_21 {w : go_Wd} {tx i : Nat} {μ : PM} {Z : go_ZT} (hZ : go_up Z) (hL : w.2.2.2.2.2.1 ≤ 3072) (hi : i + 6 ≤ w.2.2.2.2.2.1) (hR : RR μ μ) (K : ∀ tx' μ', RR μ' μ' → Go w 544 0 0 mtL_law 1669 (lwl i) [] (go_mk tx' μ') Z) : Go w 544 0 0 mtL_law 893 (lwl i) [] (go_mk tx μ) Z := by
  refine go_aload_n dL_law_893 2 rfl ?_
  refine la (j := 1) dL_law_894 dL_law_895 dL_law_896 dL_law_897 dL_law_898 rfl (by decide) hi hL ?_
  show Go w 544 0 0 mtL_law 899 (lwl i) [.int (w.2.2.2.2.2.2 (i + 1)), .ref 0] (go_mk tx μ) Z
  refine la (j := 2) dL_law_899 dL_law_900 dL_law_901 dL_law_902 dL_law_903 rfl (by decide) hi hL ?_
  show Go w 544 0 0 mtL_law 904 (lwl i) [.int (w.2.2.2.2.2.2 (i + 2)), .int (w.2.2.2.2.2.2 (i + 1)), .ref 0] (go_mk tx μ) Z
  refine la (j := 3) dL_law_904 dL_law_905 dL_law_906 dL_law_907 dL_law_908 rfl (by decide) hi hL ?_
  show Go w 544 0 0 mtL_law 909 (lwl i) [.int (w.2.2.2.2.2.2 (i + 3)), .int (w.2.2.2.2.2.2 (i + 2)), .int (w.2.2.2.2.2.2 (i + 1)), .ref 0] (go_mk tx μ) Z
  obtain ⟨r, μ1, μ2, h1, h2, hR2⟩ := RR_both (c_foretold (w.2.2.2.2.2.2 (i + 1)) (w.2.2.2.2.2.2 (i + 2)) (w.2.2.2.2.2.2 (i + 3))) hR
  refine pp_callV (m := mtL_law) (as := [.int (w.2.2.2.2.2.2 (i + 1)), .int (w.2.2.2.2.2.2 (i + 2)), .int (w.2.2.2.2.2.2 (i + 3))]) (st := []) (rv := some (.int r)) (μ1 := μ1) (tx1 := tx) (st1 := [.int r]) dL_law_909 ll_L_105 sh_0 (by decide) rfl (ctX11_foretold h1) rfl (Nat.le_of_ble_eq_true rfl) (Nat.le_of_ble_eq_true rfl) hZ rfl rfl ?_
  show Go w 544 0 0 mtL_law 912 (lwl i) [.int r] (go_mk tx μ1) Z
  refine go_aload_n dL_law_912 1 rfl ?_
  refine la (j := 1) dL_law_913 dL_law_914 dL_law_915 dL_law_916 dL_law_917 rfl (by decide) hi hL ?_
  show Go w 544 0 0 mtL_law 918 (lwl i) [.int (w.2.2.2.2.2.2 (i + 1)), .ref 401, .int r] (go_mk tx μ1) Z
  refine la (j := 2) dL_law_918 dL_law_919 dL_law_920 dL_law_921 dL_law_922 rfl (by decide) hi hL ?_
  show Go w 544 0 0 mtL_law 923 (lwl i) [.int (w.2.2.2.2.2.2 (i + 2)), .int (w.2.2.2.2.2.2 (i + 1)), .ref 401, .int r] (go_mk tx μ1) Z
  refine la (j := 3) dL_law_923 dL_law_924 dL_law_925 dL_law_926 dL_law_927 rfl (by decide) hi hL ?_
  show Go w 544 0 0 mtL_law 928 (lwl i) [.int (w.2.2.2.2.2.2 (i + 3)), .int (w.2.2.2.2.2.2 (i + 2)), .int (w.2.2.2.2.2.2 (i + 1)), .ref 401, .int r] (go_mk tx μ1) Z
  refine pp_callV (m := mtL_law) (as := [.int (w.2.2.2.2.2.2 (i + 1)), .int (w.2.2.2.2.2.2 (i + 2)), .int (w.2.2.2.2.2.2 (i + 3))]) (st := [.int r]) (rv := some (.int r)) (μ1 := μ2) (tx1 := tx) (st1 := [.int r, .int r]) dL_law_928 ll_L_108 sh_401 (by decide) rfl (ctX12_foretold h2) rfl (Nat.le_of_ble_eq_true rfl) (Nat.le_of_ble_eq_true rfl) hZ rfl rfl ?_
  show Go w 544 0 0 mtL_law 931 (lwl i) [.int r, .int r] (go_mk tx μ2) Z
  refine go_icmp_eq 1669 dL_law_931 (by decide) (fun _ => K tx μ2 hR2) (fun hc => absurd rfl hc)
theorem lc_22 {w : go_Wd} {tx i : Nat} {μ : PM} {Z : go_ZT} (hZ : go_up Z) (hL : w.2.2.2.2.2.1 ≤ 3072) (hi : i + 6 ≤ w.2.2.2.2.2.1) (hR : RR μ μ) (K : ∀ tx' μ', RR μ' μ' → Go w 544 0 0 mtL_law 1669 (lwl i) [] (go_mk tx' μ') Z) : Go w 544 0 0 mtL_law 936 (lwl i) [] (go_mk tx μ) Z := by
  refine go_aload_n dL_law_936 2 rfl ?_
  refine la (j := 1) dL_law_937 dL_law_938 dL_law_939 dL_law_940 dL_law_941 rfl (by decide) hi hL ?_
  show Go w 544 0 0 mtL_law 942 (lwl i) [.int (w.2.2.2.2.2.2 (i + 1)), .ref 0] (go_mk tx μ) Z
  refine la (j := 2) dL_law_942 dL_law_943 dL_law_944 dL_law_945 dL_law_946 rfl (by decide) hi hL ?_
  show Go w 544 0 0 mtL_law 947 (lwl i) [.int (w.2.2.2.2.2.2 (i + 2)), .int (w.2.2.2.2.2.2 (i + 1)), .ref 0] (go_mk tx μ) Z
  refine la (j := 3) dL_law_947 dL_law_948 dL_law_949 dL_law_950 dL_law_951 rfl (by decide) hi hL ?_
  show Go w 544 0 0 mtL_law 952 (lwl i) [.int (w.2.2.2.2.2.2 (i + 3)), .int (w.2.2.2.2.2.2 (i + 2)), .int (w.2.2.2.2.2.2 (i + 1)), .ref 0] (go_mk tx μ) Z
  obtain ⟨r, μ1, μ2, h1, h2, hR2⟩ := RR_both (c_wants (w.2.2.2.2.2.2 (i + 1)) (w.2.2.2.2.2.2 (i + 2)) (w.2.2.2.2.2.2 (i + 3))) hR
  refine pp_callV (m := mtL_law) (as := [.int (w.2.2.2.2.2.2 (i + 1)), .int (w.2.2.2.2.2.2 (i + 2)), .int (w.2.2.2.2.2.2 (i + 3))]) (st := []) (rv := some (.int r)) (μ1 := μ1) (tx1 := tx) (st1 := [.int r]) dL_law_952 ll_L_109 sh_0 (by decide) rfl (ctX11_wants h1) rfl (Nat.le_of_ble_eq_true rfl) (Nat.le_of_ble_eq_true rfl) hZ rfl rfl ?_
  show Go w 544 0 0 mtL_law 955 (lwl i) [.int r] (go_mk tx μ1) Z
  refine go_aload_n dL_law_955 1 rfl ?_
  refine la (j := 1) dL_law_956 dL_law_957 dL_law_958 dL_law_959 dL_law_960 rfl (by decide) hi hL ?_
  show Go w 544 0 0 mtL_law 961 (lwl i) [.int (w.2.2.2.2.2.2 (i + 1)), .ref 401, .int r] (go_mk tx μ1) Z
  refine la (j := 2) dL_law_961 dL_law_962 dL_law_963 dL_law_964 dL_law_965 rfl (by decide) hi hL ?_
  show Go w 544 0 0 mtL_law 966 (lwl i) [.int (w.2.2.2.2.2.2 (i + 2)), .int (w.2.2.2.2.2.2 (i + 1)), .ref 401, .int r] (go_mk tx μ1) Z
  refine la (j := 3) dL_law_966 dL_law_967 dL_law_968 dL_law_969 dL_law_970 rfl (by decide) hi hL ?_
  show Go w 544 0 0 mtL_law 971 (lwl i) [.int (w.2.2.2.2.2.2 (i + 3)), .int (w.2.2.2.2.2.2 (i + 2)), .int (w.2.2.2.2.2.2 (i + 1)), .ref 401, .int r] (go_mk tx μ1) Z
  refine pp_callV (m := mtL_law) (as := [.int (w.2.2.2.2.2.2 (i + 1)), .int (w.2.2.2.2.2.2 (i + 2)), .int (w.2.2.2.2.2.2 (i + 3))]) (st := [.int r]) (rv := some (.int r)) (μ1 := μ2) (tx1 := tx) (st1 := [.int r, .int r]) dL_law_971 ll_L_113 sh_401 (by decide) rfl (ctX12_wants h2) rfl (Nat.le_of_ble_eq_true rfl) (Nat.le_of_ble_eq_true rfl) hZ rfl rfl ?_
  show Go w 544 0 0 mtL_law 974 (lwl i) [.int r, .int r] (go_mk tx μ2) Z
  refine go_icmp_eq 1669 dL_law_974 (by decide) (fun _ => K tx μ2 hR2) (fun hc => absurd rfl hc)
theorem lc_23 {w : go_Wd} {tx i : Nat} {μ : PM} {Z : go_ZT} (hZ : go_up Z) (hL : w.2.2.2.2.2.1 ≤ 3072) (hi : i + 6 ≤ w.2.2.2.2.2.1) (hR : RR μ μ) (K : ∀ tx' μ', RR μ' μ' → Go w 544 0 0 mtL_law 1669 (lwl i) [] (go_mk tx' μ') Z) : Go w 544 0 0 mtL_law 979 (lwl i) [] (go_mk tx μ) Z := by
  refine go_aload_n dL_law_979 2 rfl ?_
  refine la (j := 1) dL_law_980 dL_law_981 dL_law_982 dL_law_983 dL_law_984 rfl (by decide) hi hL ?_
  show Go w 544 0 0 mtL_law 985 (lwl i) [.int (w.2.2.2.2.2.2 (i + 1)), .ref 0] (go_mk tx μ) Z
  refine la (j := 2) dL_law_985 dL_law_986 dL_law_987 dL_law_988 dL_law_989 rfl (by decide) hi hL ?_
  show Go w 544 0 0 mtL_law 990 (lwl i) [.int (w.2.2.2.2.2.2 (i + 2)), .int (w.2.2.2.2.2.2 (i + 1)), .ref 0] (go_mk tx μ) Z
  refine la (j := 3) dL_law_990 dL_law_991 dL_law_992 dL_law_993 dL_law_994 rfl (by decide) hi hL ?_
  show Go w 544 0 0 mtL_law 995 (lwl i) [.int (w.2.2.2.2.2.2 (i + 3)), .int (w.2.2.2.2.2.2 (i + 2)), .int (w.2.2.2.2.2.2 (i + 1)), .ref 0] (go_mk tx μ) Z
  obtain ⟨r, μ1, μ2, h1, h2, hR2⟩ := RR_both (c_favours (w.2.2.2.2.2.2 (i + 1)) (w.2.2.2.2.2.2 (i + 2)) (w.2.2.2.2.2.2 (i + 3))) hR
  refine pp_callV (m := mtL_law) (as := [.int (w.2.2.2.2.2.2 (i + 1)), .int (w.2.2.2.2.2.2 (i + 2)), .int (w.2.2.2.2.2.2 (i + 3))]) (st := []) (rv := some (.int r)) (μ1 := μ1) (tx1 := tx) (st1 := [.int r]) dL_law_995 ll_L_114 sh_0 (by decide) rfl (ctX11_favours h1) rfl (Nat.le_of_ble_eq_true rfl) (Nat.le_of_ble_eq_true rfl) hZ rfl rfl ?_
  show Go w 544 0 0 mtL_law 998 (lwl i) [.int r] (go_mk tx μ1) Z
  refine go_aload_n dL_law_998 1 rfl ?_
  refine la (j := 1) dL_law_999 dL_law_1000 dL_law_1001 dL_law_1002 dL_law_1003 rfl (by decide) hi hL ?_
  show Go w 544 0 0 mtL_law 1004 (lwl i) [.int (w.2.2.2.2.2.2 (i + 1)), .ref 401, .int r] (go_mk tx μ1) Z
  refine la (j := 2) dL_law_1004 dL_law_1005 dL_law_1006 dL_law_1007 dL_law_1008 rfl (by decide) hi hL ?_
  show Go w 544 0 0 mtL_law 1009 (lwl i) [.int (w.2.2.2.2.2.2 (i + 2)), .int (w.2.2.2.2.2.2 (i + 1)), .ref 401, .int r] (go_mk tx μ1) Z
  refine la (j := 3) dL_law_1009 dL_law_1010 dL_law_1011 dL_law_1012 dL_law_1013 rfl (by decide) hi hL ?_
  show Go w 544 0 0 mtL_law 1014 (lwl i) [.int (w.2.2.2.2.2.2 (i + 3)), .int (w.2.2.2.2.2.2 (i + 2)), .int (w.2.2.2.2.2.2 (i + 1)), .ref 401, .int r] (go_mk tx μ1) Z
  refine pp_callV (m := mtL_law) (as := [.int (w.2.2.2.2.2.2 (i + 1)), .int (w.2.2.2.2.2.2 (i + 2)), .int (w.2.2.2.2.2.2 (i + 3))]) (st := [.int r]) (rv := some (.int r)) (μ1 := μ2) (tx1 := tx) (st1 := [.int r, .int r]) dL_law_1014 ll_L_117 sh_401 (by decide) rfl (ctX12_favours h2) rfl (Nat.le_of_ble_eq_true rfl) (Nat.le_of_ble_eq_true rfl) hZ rfl rfl ?_
  show Go w 544 0 0 mtL_law 1017 (lwl i) [.int r, .int r] (go_mk tx μ2) Z
  refine go_icmp_eq 1669 dL_law_1017 (by decide) (fun _ => K tx μ2 hR2) (fun hc => absurd rfl hc)
theorem lc_24 {w : go_Wd} {tx i : Nat} {μ : PM} {Z : go_ZT} (hZ : go_up Z) (hL : w.2.2.2.2.2.1 ≤ 3072) (hi : i + 6 ≤ w.2.2.2.2.2.1) (hR : RR μ μ) (K : ∀ tx' μ', RR μ' μ' → Go w 544 0 0 mtL_law 1669 (lwl i) [] (go_mk tx' μ') Z) : Go w 544 0 0 mtL_law 1022 (lwl i) [] (go_mk tx μ) Z := by
  refine go_aload_n dL_law_1022 2 rfl ?_
  refine la (j := 1) dL_law_1023 dL_law_1024 dL_law_1025 dL_law_1026 dL_law_1027 rfl (by decide) hi hL ?_
  show Go w 544 0 0 mtL_law 1028 (lwl i) [.int (w.2.2.2.2.2.2 (i + 1)), .ref 0] (go_mk tx μ) Z
  refine la (j := 2) dL_law_1028 dL_law_1029 dL_law_1030 dL_law_1031 dL_law_1032 rfl (by decide) hi hL ?_
  refine lb dL_law_1033 dL_law_1036 dL_law_1037 dL_law_1040 ?_
  show Go w 544 0 0 mtL_law 1041 (lwl i) [.int (if (w.2.2.2.2.2.2 (i + 2)) = 0 then (0 : Int32) else 1), .int (w.2.2.2.2.2.2 (i + 1)), .ref 0] (go_mk tx μ) Z
  obtain ⟨r, μ1, μ2, h1, h2, hR2⟩ := RR_both (c_stable (w.2.2.2.2.2.2 (i + 1)) (if (w.2.2.2.2.2.2 (i + 2)) = 0 then (0 : Int32) else 1) (by split <;> decide)) hR
  refine pp_callV (m := mtL_law) (as := [.int (w.2.2.2.2.2.2 (i + 1)), .int (if (w.2.2.2.2.2.2 (i + 2)) = 0 then (0 : Int32) else 1)]) (st := []) (rv := some (.int r)) (μ1 := μ1) (tx1 := tx) (st1 := [.int r]) dL_law_1041 ll_L_118 sh_0 (by decide) rfl (ctX11_stable h1) rfl (Nat.le_of_ble_eq_true rfl) (Nat.le_of_ble_eq_true rfl) hZ rfl rfl ?_
  show Go w 544 0 0 mtL_law 1044 (lwl i) [.int r] (go_mk tx μ1) Z
  refine go_aload_n dL_law_1044 1 rfl ?_
  refine la (j := 1) dL_law_1045 dL_law_1046 dL_law_1047 dL_law_1048 dL_law_1049 rfl (by decide) hi hL ?_
  show Go w 544 0 0 mtL_law 1050 (lwl i) [.int (w.2.2.2.2.2.2 (i + 1)), .ref 401, .int r] (go_mk tx μ1) Z
  refine la (j := 2) dL_law_1050 dL_law_1051 dL_law_1052 dL_law_1053 dL_law_1054 rfl (by decide) hi hL ?_
  refine lb dL_law_1055 dL_law_1058 dL_law_1059 dL_law_1062 ?_
  show Go w 544 0 0 mtL_law 1063 (lwl i) [.int (if (w.2.2.2.2.2.2 (i + 2)) = 0 then (0 : Int32) else 1), .int (w.2.2.2.2.2.2 (i + 1)), .ref 401, .int r] (go_mk tx μ1) Z
  refine pp_callV (m := mtL_law) (as := [.int (w.2.2.2.2.2.2 (i + 1)), .int (if (w.2.2.2.2.2.2 (i + 2)) = 0 then (0 : Int32) else 1)]) (st := [.int r]) (rv := some (.int r)) (μ1 := μ2) (tx1 := tx) (st1 := [.int r, .int r]) dL_law_1063 ll_L_122 sh_401 (by decide) rfl (ctX12_stable h2) rfl (Nat.le_of_ble_eq_true rfl) (Nat.le_of_ble_eq_true rfl) hZ rfl rfl ?_
  show Go w 544 0 0 mtL_law 1066 (lwl i) [.int r, .int r] (go_mk tx μ2) Z
  refine go_icmp_eq 1669 dL_law_1066 (by decide) (fun _ => K tx μ2 hR2) (fun hc => absurd rfl hc)
theorem lc_25 {w : go_Wd} {tx i : Nat} {μ : PM} {Z : go_ZT} (hZ : go_up Z) (hL : w.2.2.2.2.2.1 ≤ 3072) (hi : i + 6 ≤ w.2.2.2.2.2.1) (hR : RR μ μ) (K : ∀ tx' μ', RR μ' μ' → Go w 544 0 0 mtL_law 1669 (lwl i) [] (go_mk tx' μ') Z) : Go w 544 0 0 mtL_law 1071 (lwl i) [] (go_mk tx μ) Z := by
  refine go_aload_n dL_law_1071 2 rfl ?_
  obtain ⟨r, μ1, μ2, h1, h2, hR2⟩ := RR_both (c_stables) hR
  refine pp_callV (m := mtL_law) (as := []) (st := []) (rv := some (.int r)) (μ1 := μ1) (tx1 := tx) (st1 := [.int r]) dL_law_1072 ll_L_123 sh_0 (by decide) rfl (ctX11_stables h1) rfl (Nat.le_of_ble_eq_true rfl) (Nat.le_of_ble_eq_true rfl) hZ rfl rfl ?_
  show Go w 544 0 0 mtL_law 1075 (lwl i) [.int r] (go_mk tx μ1) Z
  refine go_aload_n dL_law_1075 1 rfl ?_
  refine pp_callV (m := mtL_law) (as := []) (st := [.int r]) (rv := some (.int r)) (μ1 := μ2) (tx1 := tx) (st1 := [.int r, .int r]) dL_law_1076 ll_L_126 sh_401 (by decide) rfl (ctX12_stables h2) rfl (Nat.le_of_ble_eq_true rfl) (Nat.le_of_ble_eq_true rfl) hZ rfl rfl ?_
  show Go w 544 0 0 mtL_law 1079 (lwl i) [.int r, .int r] (go_mk tx μ2) Z
  refine go_icmp_eq 1669 dL_law_1079 (by decide) (fun _ => K tx μ2 hR2) (fun hc => absurd rfl hc)
theorem lc_26 {w : go_Wd} {tx i : Nat} {μ : PM} {Z : go_ZT} (hZ : go_up Z) (hL : w.2.2.2.2.2.1 ≤ 3072) (hi : i + 6 ≤ w.2.2.2.2.2.1) (hR : RR μ μ) (K : ∀ tx' μ', RR μ' μ' → Go w 544 0 0 mtL_law 1669 (lwl i) [] (go_mk tx' μ') Z) : Go w 544 0 0 mtL_law 1084 (lwl i) [] (go_mk tx μ) Z := by
  refine go_aload_n dL_law_1084 2 rfl ?_
  refine la (j := 1) dL_law_1085 dL_law_1086 dL_law_1087 dL_law_1088 dL_law_1089 rfl (by decide) hi hL ?_
  show Go w 544 0 0 mtL_law 1090 (lwl i) [.int (w.2.2.2.2.2.2 (i + 1)), .ref 0] (go_mk tx μ) Z
  refine la (j := 2) dL_law_1090 dL_law_1091 dL_law_1092 dL_law_1093 dL_law_1094 rfl (by decide) hi hL ?_
  show Go w 544 0 0 mtL_law 1095 (lwl i) [.int (w.2.2.2.2.2.2 (i + 2)), .int (w.2.2.2.2.2.2 (i + 1)), .ref 0] (go_mk tx μ) Z
  obtain ⟨r, μ1, μ2, h1, h2, hR2⟩ := RR_both (c_give (w.2.2.2.2.2.2 (i + 1)) (w.2.2.2.2.2.2 (i + 2))) hR
  refine pp_callV (m := mtL_law) (as := [.int (w.2.2.2.2.2.2 (i + 1)), .int (w.2.2.2.2.2.2 (i + 2))]) (st := []) (rv := some (.int r)) (μ1 := μ1) (tx1 := tx) (st1 := [.int r]) dL_law_1095 ll_L_127 sh_0 (by decide) rfl (ctX11_give h1) rfl (Nat.le_of_ble_eq_true rfl) (Nat.le_of_ble_eq_true rfl) hZ rfl rfl ?_
  show Go w 544 0 0 mtL_law 1098 (lwl i) [.int r] (go_mk tx μ1) Z
  refine go_aload_n dL_law_1098 1 rfl ?_
  refine la (j := 1) dL_law_1099 dL_law_1100 dL_law_1101 dL_law_1102 dL_law_1103 rfl (by decide) hi hL ?_
  show Go w 544 0 0 mtL_law 1104 (lwl i) [.int (w.2.2.2.2.2.2 (i + 1)), .ref 401, .int r] (go_mk tx μ1) Z
  refine la (j := 2) dL_law_1104 dL_law_1105 dL_law_1106 dL_law_1107 dL_law_1108 rfl (by decide) hi hL ?_
  show Go w 544 0 0 mtL_law 1109 (lwl i) [.int (w.2.2.2.2.2.2 (i + 2)), .int (w.2.2.2.2.2.2 (i + 1)), .ref 401, .int r] (go_mk tx μ1) Z
  refine pp_callV (m := mtL_law) (as := [.int (w.2.2.2.2.2.2 (i + 1)), .int (w.2.2.2.2.2.2 (i + 2))]) (st := [.int r]) (rv := some (.int r)) (μ1 := μ2) (tx1 := tx) (st1 := [.int r, .int r]) dL_law_1109 ll_L_130 sh_401 (by decide) rfl (ctX12_give h2) rfl (Nat.le_of_ble_eq_true rfl) (Nat.le_of_ble_eq_true rfl) hZ rfl rfl ?_
  show Go w 544 0 0 mtL_law 1112 (lwl i) [.int r, .int r] (go_mk tx μ2) Z
  refine go_icmp_eq 1669 dL_law_1112 (by decide) (fun _ => K tx μ2 hR2) (fun hc => absurd rfl hc)
theorem lc_27 {w : go_Wd} {tx i : Nat} {μ : PM} {Z : go_ZT} (hZ : go_up Z) (hL : w.2.2.2.2.2.1 ≤ 3072) (hi : i + 6 ≤ w.2.2.2.2.2.1) (hR : RR μ μ) (K : ∀ tx' μ', RR μ' μ' → Go w 544 0 0 mtL_law 1669 (lwl i) [] (go_mk tx' μ') Z) : Go w 544 0 0 mtL_law 1117 (lwl i) [] (go_mk tx μ) Z := by
  refine go_aload_n dL_law_1117 2 rfl ?_
  obtain ⟨r, μ2, h1, h2, hR2⟩ := RR_rests hR
  refine pp_callV (m := mtL_law) (as := []) (st := []) (rv := some (.int r)) (μ1 := μ) (tx1 := tx) (st1 := [.int r]) dL_law_1118 ll_L_131 sh_0 (by decide) rfl (ctX11_rests h1) rfl (Nat.le_of_ble_eq_true rfl) (Nat.le_of_ble_eq_true rfl) hZ rfl rfl ?_
  show Go w 544 0 0 mtL_law 1121 (lwl i) [.int r] (go_mk tx μ) Z
  refine go_aload_n dL_law_1121 1 rfl ?_
  refine pp_callV (m := mtL_law) (as := []) (st := [.int r]) (rv := some (.int r)) (μ1 := μ2) (tx1 := tx) (st1 := [.int r, .int r]) dL_law_1122 ll_L_134 sh_401 (by decide) rfl (ctX12_rests h2) rfl (Nat.le_of_ble_eq_true rfl) (Nat.le_of_ble_eq_true rfl) hZ rfl rfl ?_
  show Go w 544 0 0 mtL_law 1125 (lwl i) [.int r, .int r] (go_mk tx μ2) Z
  refine go_icmp_eq 1669 dL_law_1125 (by decide) (fun _ => K tx μ2 hR2) (fun hc => absurd rfl hc)
theorem lc_28 {w : go_Wd} {tx i : Nat} {μ : PM} {Z : go_ZT} (hZ : go_up Z) (hL : w.2.2.2.2.2.1 ≤ 3072) (hi : i + 6 ≤ w.2.2.2.2.2.1) (hR : RR μ μ) (K : ∀ tx' μ', RR μ' μ' → Go w 544 0 0 mtL_law 1669 (lwl i) [] (go_mk tx' μ') Z) : Go w 544 0 0 mtL_law 1130 (lwl i) [] (go_mk tx μ) Z := by
  refine go_aload_n dL_law_1130 2 rfl ?_
  refine la (j := 1) dL_law_1131 dL_law_1132 dL_law_1133 dL_law_1134 dL_law_1135 rfl (by decide) hi hL ?_
  show Go w 544 0 0 mtL_law 1136 (lwl i) [.int (w.2.2.2.2.2.2 (i + 1)), .ref 0] (go_mk tx μ) Z
  obtain ⟨r, h1, h2⟩ := c_gladdest (w.2.2.2.2.2.2 (i + 1)) hR
  refine pp_callV (m := mtL_law) (as := [.int (w.2.2.2.2.2.2 (i + 1))]) (st := []) (rv := some (.int r)) (μ1 := μ) (tx1 := tx) (st1 := [.int r]) dL_law_1136 ll_L_135 sh_0 (by decide) rfl (ctX11_gladdest h1) rfl (Nat.le_of_ble_eq_true rfl) (Nat.le_of_ble_eq_true rfl) hZ rfl rfl ?_
  show Go w 544 0 0 mtL_law 1139 (lwl i) [.int r] (go_mk tx μ) Z
  refine go_aload_n dL_law_1139 1 rfl ?_
  refine la (j := 1) dL_law_1140 dL_law_1141 dL_law_1142 dL_law_1143 dL_law_1144 rfl (by decide) hi hL ?_
  show Go w 544 0 0 mtL_law 1145 (lwl i) [.int (w.2.2.2.2.2.2 (i + 1)), .ref 401, .int r] (go_mk tx μ) Z
  refine pp_callV (m := mtL_law) (as := [.int (w.2.2.2.2.2.2 (i + 1))]) (st := [.int r]) (rv := some (.int r)) (μ1 := μ) (tx1 := tx) (st1 := [.int r, .int r]) dL_law_1145 ll_L_138 sh_401 (by decide) rfl (ctX12_gladdest h2) rfl (Nat.le_of_ble_eq_true rfl) (Nat.le_of_ble_eq_true rfl) hZ rfl rfl ?_
  show Go w 544 0 0 mtL_law 1148 (lwl i) [.int r, .int r] (go_mk tx μ) Z
  refine go_icmp_eq 1669 dL_law_1148 (by decide) (fun _ => K tx μ hR) (fun hc => absurd rfl hc)
theorem lc_29 {w : go_Wd} {tx i : Nat} {μ : PM} {Z : go_ZT} (hZ : go_up Z) (hL : w.2.2.2.2.2.1 ≤ 3072) (hi : i + 6 ≤ w.2.2.2.2.2.1) (hR : RR μ μ) (K : ∀ tx' μ', RR μ' μ' → Go w 544 0 0 mtL_law 1669 (lwl i) [] (go_mk tx' μ') Z) : Go w 544 0 0 mtL_law 1153 (lwl i) [] (go_mk tx μ) Z := by
  refine go_aload_n dL_law_1153 2 rfl ?_
  refine la (j := 1) dL_law_1154 dL_law_1155 dL_law_1156 dL_law_1157 dL_law_1158 rfl (by decide) hi hL ?_
  show Go w 544 0 0 mtL_law 1159 (lwl i) [.int (w.2.2.2.2.2.2 (i + 1)), .ref 0] (go_mk tx μ) Z
  refine la (j := 2) dL_law_1159 dL_law_1160 dL_law_1161 dL_law_1162 dL_law_1163 rfl (by decide) hi hL ?_
  show Go w 544 0 0 mtL_law 1164 (lwl i) [.int (w.2.2.2.2.2.2 (i + 2)), .int (w.2.2.2.2.2.2 (i + 1)), .ref 0] (go_mk tx μ) Z
  refine la (j := 3) dL_law_1164 dL_law_1165 dL_law_1166 dL_law_1167 dL_law_1168 rfl (by decide) hi hL ?_
  show Go w 544 0 0 mtL_law 1169 (lwl i) [.int (w.2.2.2.2.2.2 (i + 3)), .int (w.2.2.2.2.2.2 (i + 2)), .int (w.2.2.2.2.2.2 (i + 1)), .ref 0] (go_mk tx μ) Z
  refine la (j := 4) dL_law_1169 dL_law_1170 dL_law_1171 dL_law_1172 dL_law_1173 rfl (by decide) hi hL ?_
  refine lb dL_law_1174 dL_law_1177 dL_law_1178 dL_law_1181 ?_
  show Go w 544 0 0 mtL_law 1182 (lwl i) [.int (if (w.2.2.2.2.2.2 (i + 4)) = 0 then (0 : Int32) else 1), .int (w.2.2.2.2.2.2 (i + 3)), .int (w.2.2.2.2.2.2 (i + 2)), .int (w.2.2.2.2.2.2 (i + 1)), .ref 0] (go_mk tx μ) Z
  obtain ⟨r, μ1, μ2, h1, h2, hR2⟩ := RR_bothL (c_whole (w.2.2.2.2.2.2 (i + 1)) (w.2.2.2.2.2.2 (i + 2)) (w.2.2.2.2.2.2 (i + 3)) (if (w.2.2.2.2.2.2 (i + 4)) = 0 then (0 : Int32) else 1)) hR
  refine pp_callV (m := mtL_law) (as := [.int (w.2.2.2.2.2.2 (i + 1)), .int (w.2.2.2.2.2.2 (i + 2)), .int (w.2.2.2.2.2.2 (i + 3)), .int (if (w.2.2.2.2.2.2 (i + 4)) = 0 then (0 : Int32) else 1)]) (st := []) (rv := some (.long r)) (μ1 := μ1) (tx1 := tx) (st1 := [.long r]) dL_law_1182 ll_L_139 sh_0 (by decide) rfl (ctX11_whole h1) rfl (Nat.le_of_ble_eq_true rfl) (Nat.le_of_ble_eq_true rfl) hZ rfl rfl ?_
  show Go w 544 0 0 mtL_law 1185 (lwl i) [.long r] (go_mk tx μ1) Z
  refine go_aload_n dL_law_1185 1 rfl ?_
  refine la (j := 1) dL_law_1186 dL_law_1187 dL_law_1188 dL_law_1189 dL_law_1190 rfl (by decide) hi hL ?_
  show Go w 544 0 0 mtL_law 1191 (lwl i) [.int (w.2.2.2.2.2.2 (i + 1)), .ref 401, .long r] (go_mk tx μ1) Z
  refine la (j := 2) dL_law_1191 dL_law_1192 dL_law_1193 dL_law_1194 dL_law_1195 rfl (by decide) hi hL ?_
  show Go w 544 0 0 mtL_law 1196 (lwl i) [.int (w.2.2.2.2.2.2 (i + 2)), .int (w.2.2.2.2.2.2 (i + 1)), .ref 401, .long r] (go_mk tx μ1) Z
  refine la (j := 3) dL_law_1196 dL_law_1197 dL_law_1198 dL_law_1199 dL_law_1200 rfl (by decide) hi hL ?_
  show Go w 544 0 0 mtL_law 1201 (lwl i) [.int (w.2.2.2.2.2.2 (i + 3)), .int (w.2.2.2.2.2.2 (i + 2)), .int (w.2.2.2.2.2.2 (i + 1)), .ref 401, .long r] (go_mk tx μ1) Z
  refine la (j := 4) dL_law_1201 dL_law_1202 dL_law_1203 dL_law_1204 dL_law_1205 rfl (by decide) hi hL ?_
  refine lb dL_law_1206 dL_law_1209 dL_law_1210 dL_law_1213 ?_
  show Go w 544 0 0 mtL_law 1214 (lwl i) [.int (if (w.2.2.2.2.2.2 (i + 4)) = 0 then (0 : Int32) else 1), .int (w.2.2.2.2.2.2 (i + 3)), .int (w.2.2.2.2.2.2 (i + 2)), .int (w.2.2.2.2.2.2 (i + 1)), .ref 401, .long r] (go_mk tx μ1) Z
  refine pp_callV (m := mtL_law) (as := [.int (w.2.2.2.2.2.2 (i + 1)), .int (w.2.2.2.2.2.2 (i + 2)), .int (w.2.2.2.2.2.2 (i + 3)), .int (if (w.2.2.2.2.2.2 (i + 4)) = 0 then (0 : Int32) else 1)]) (st := [.long r]) (rv := some (.long r)) (μ1 := μ2) (tx1 := tx) (st1 := [.long r, .long r]) dL_law_1214 ll_L_143 sh_401 (by decide) rfl (ctX12_whole h2) rfl (Nat.le_of_ble_eq_true rfl) (Nat.le_of_ble_eq_true rfl) hZ rfl rfl ?_
  show Go w 544 0 0 mtL_law 1217 (lwl i) [.long r, .long r] (go_mk tx μ2) Z
  refine go_lcmp dL_law_1217 ?_
  rw [lc_same]
  refine go_if_eq 1669 dL_law_1218 (by decide) (fun _ => K tx μ2 hR2) (fun hc => absurd rfl hc)
theorem lc_30 {w : go_Wd} {tx i : Nat} {μ : PM} {Z : go_ZT} (hZ : go_up Z) (hL : w.2.2.2.2.2.1 ≤ 3072) (hi : i + 6 ≤ w.2.2.2.2.2.1) (hR : RR μ μ) (K : ∀ tx' μ', RR μ' μ' → Go w 544 0 0 mtL_law 1669 (lwl i) [] (go_mk tx' μ') Z) : Go w 544 0 0 mtL_law 1223 (lwl i) [] (go_mk tx μ) Z := by
  refine go_aload_n dL_law_1223 2 rfl ?_
  refine la (j := 1) dL_law_1224 dL_law_1225 dL_law_1226 dL_law_1227 dL_law_1228 rfl (by decide) hi hL ?_
  show Go w 544 0 0 mtL_law 1229 (lwl i) [.int (w.2.2.2.2.2.2 (i + 1)), .ref 0] (go_mk tx μ) Z
  refine la (j := 2) dL_law_1229 dL_law_1230 dL_law_1231 dL_law_1232 dL_law_1233 rfl (by decide) hi hL ?_
  show Go w 544 0 0 mtL_law 1234 (lwl i) [.int (w.2.2.2.2.2.2 (i + 2)), .int (w.2.2.2.2.2.2 (i + 1)), .ref 0] (go_mk tx μ) Z
  refine la (j := 3) dL_law_1234 dL_law_1235 dL_law_1236 dL_law_1237 dL_law_1238 rfl (by decide) hi hL ?_
  show Go w 544 0 0 mtL_law 1239 (lwl i) [.int (w.2.2.2.2.2.2 (i + 3)), .int (w.2.2.2.2.2.2 (i + 2)), .int (w.2.2.2.2.2.2 (i + 1)), .ref 0] (go_mk tx μ) Z
  refine la (j := 4) dL_law_1239 dL_law_1240 dL_law_1241 dL_law_1242 dL_law_1243 rfl (by decide) hi hL ?_
  show Go w 544 0 0 mtL_law 1244 (lwl i) [.int (w.2.2.2.2.2.2 (i + 4)), .int (w.2.2.2.2.2.2 (i + 3)), .int (w.2.2.2.2.2.2 (i + 2)), .int (w.2.2.2.2.2.2 (i + 1)), .ref 0] (go_mk tx μ) Z
  obtain ⟨r, μ1, μ2, h1, h2, hR2⟩ := RR_both (c_clear (w.2.2.2.2.2.2 (i + 1)) (w.2.2.2.2.2.2 (i + 2)) (w.2.2.2.2.2.2 (i + 3)) (w.2.2.2.2.2.2 (i + 4))) hR
  refine pp_callV (m := mtL_law) (as := [.int (w.2.2.2.2.2.2 (i + 1)), .int (w.2.2.2.2.2.2 (i + 2)), .int (w.2.2.2.2.2.2 (i + 3)), .int (w.2.2.2.2.2.2 (i + 4))]) (st := []) (rv := some (.int r)) (μ1 := μ1) (tx1 := tx) (st1 := [.int r]) dL_law_1244 ll_L_144 sh_0 (by decide) rfl (ctX11_clear h1) rfl (Nat.le_of_ble_eq_true rfl) (Nat.le_of_ble_eq_true rfl) hZ rfl rfl ?_
  show Go w 544 0 0 mtL_law 1247 (lwl i) [.int r] (go_mk tx μ1) Z
  refine go_aload_n dL_law_1247 1 rfl ?_
  refine la (j := 1) dL_law_1248 dL_law_1249 dL_law_1250 dL_law_1251 dL_law_1252 rfl (by decide) hi hL ?_
  show Go w 544 0 0 mtL_law 1253 (lwl i) [.int (w.2.2.2.2.2.2 (i + 1)), .ref 401, .int r] (go_mk tx μ1) Z
  refine la (j := 2) dL_law_1253 dL_law_1254 dL_law_1255 dL_law_1256 dL_law_1257 rfl (by decide) hi hL ?_
  show Go w 544 0 0 mtL_law 1258 (lwl i) [.int (w.2.2.2.2.2.2 (i + 2)), .int (w.2.2.2.2.2.2 (i + 1)), .ref 401, .int r] (go_mk tx μ1) Z
  refine la (j := 3) dL_law_1258 dL_law_1259 dL_law_1260 dL_law_1261 dL_law_1262 rfl (by decide) hi hL ?_
  show Go w 544 0 0 mtL_law 1263 (lwl i) [.int (w.2.2.2.2.2.2 (i + 3)), .int (w.2.2.2.2.2.2 (i + 2)), .int (w.2.2.2.2.2.2 (i + 1)), .ref 401, .int r] (go_mk tx μ1) Z
  refine la (j := 4) dL_law_1263 dL_law_1264 dL_law_1265 dL_law_1266 dL_law_1267 rfl (by decide) hi hL ?_
  show Go w 544 0 0 mtL_law 1268 (lwl i) [.int (w.2.2.2.2.2.2 (i + 4)), .int (w.2.2.2.2.2.2 (i + 3)), .int (w.2.2.2.2.2.2 (i + 2)), .int (w.2.2.2.2.2.2 (i + 1)), .ref 401, .int r] (go_mk tx μ1) Z
  refine pp_callV (m := mtL_law) (as := [.int (w.2.2.2.2.2.2 (i + 1)), .int (w.2.2.2.2.2.2 (i + 2)), .int (w.2.2.2.2.2.2 (i + 3)), .int (w.2.2.2.2.2.2 (i + 4))]) (st := [.int r]) (rv := some (.int r)) (μ1 := μ2) (tx1 := tx) (st1 := [.int r, .int r]) dL_law_1268 ll_L_148 sh_401 (by decide) rfl (ctX12_clear h2) rfl (Nat.le_of_ble_eq_true rfl) (Nat.le_of_ble_eq_true rfl) hZ rfl rfl ?_
  show Go w 544 0 0 mtL_law 1271 (lwl i) [.int r, .int r] (go_mk tx μ2) Z
  refine go_icmp_eq 1669 dL_law_1271 (by decide) (fun _ => K tx μ2 hR2) (fun hc => absurd rfl hc)
theorem lc_31 {w : go_Wd} {tx i : Nat} {μ : PM} {Z : go_ZT} (hZ : go_up Z) (hL : w.2.2.2.2.2.1 ≤ 3072) (hi : i + 6 ≤ w.2.2.2.2.2.1) (hR : RR μ μ) (K : ∀ tx' μ', RR μ' μ' → Go w 544 0 0 mtL_law 1669 (lwl i) [] (go_mk tx' μ') Z) : Go w 544 0 0 mtL_law 1276 (lwl i) [] (go_mk tx μ) Z := by
  refine go_aload_n dL_law_1276 2 rfl ?_
  refine la (j := 1) dL_law_1277 dL_law_1278 dL_law_1279 dL_law_1280 dL_law_1281 rfl (by decide) hi hL ?_
  show Go w 544 0 0 mtL_law 1282 (lwl i) [.int (w.2.2.2.2.2.2 (i + 1)), .ref 0] (go_mk tx μ) Z
  obtain ⟨r, μ1, μ2, h1, h2, hR2⟩ := RR_both (c_half (w.2.2.2.2.2.2 (i + 1))) hR
  refine pp_callV (m := mtL_law) (as := [.int (w.2.2.2.2.2.2 (i + 1))]) (st := []) (rv := some (.int r)) (μ1 := μ1) (tx1 := tx) (st1 := [.int r]) dL_law_1282 ll_L_149 sh_0 (by decide) rfl (ctX11_half h1) rfl (Nat.le_of_ble_eq_true rfl) (Nat.le_of_ble_eq_true rfl) hZ rfl rfl ?_
  show Go w 544 0 0 mtL_law 1285 (lwl i) [.int r] (go_mk tx μ1) Z
  refine go_aload_n dL_law_1285 1 rfl ?_
  refine la (j := 1) dL_law_1286 dL_law_1287 dL_law_1288 dL_law_1289 dL_law_1290 rfl (by decide) hi hL ?_
  show Go w 544 0 0 mtL_law 1291 (lwl i) [.int (w.2.2.2.2.2.2 (i + 1)), .ref 401, .int r] (go_mk tx μ1) Z
  refine pp_callV (m := mtL_law) (as := [.int (w.2.2.2.2.2.2 (i + 1))]) (st := [.int r]) (rv := some (.int r)) (μ1 := μ2) (tx1 := tx) (st1 := [.int r, .int r]) dL_law_1291 ll_L_152 sh_401 (by decide) rfl (ctX12_half h2) rfl (Nat.le_of_ble_eq_true rfl) (Nat.le_of_ble_eq_true rfl) hZ rfl rfl ?_
  show Go w 544 0 0 mtL_law 1294 (lwl i) [.int r, .int r] (go_mk tx μ2) Z
  refine go_icmp_eq 1669 dL_law_1294 (by decide) (fun _ => K tx μ2 hR2) (fun hc => absurd rfl hc)
theorem lc_32 {w : go_Wd} {tx i : Nat} {μ : PM} {Z : go_ZT} (hZ : go_up Z) (hL : w.2.2.2.2.2.1 ≤ 3072) (hi : i + 6 ≤ w.2.2.2.2.2.1) (hR : RR μ μ) (K : ∀ tx' μ', RR μ' μ' → Go w 544 0 0 mtL_law 1669 (lwl i) [] (go_mk tx' μ') Z) : Go w 544 0 0 mtL_law 1299 (lwl i) [] (go_mk tx μ) Z := by
  refine go_aload_n dL_law_1299 2 rfl ?_
  refine la (j := 1) dL_law_1300 dL_law_1301 dL_law_1302 dL_law_1303 dL_law_1304 rfl (by decide) hi hL ?_
  show Go w 544 0 0 mtL_law 1305 (lwl i) [.int (w.2.2.2.2.2.2 (i + 1)), .ref 0] (go_mk tx μ) Z
  obtain ⟨r, μ1, μ2, h1, h2, hR2⟩ := RR_both (c_joins (w.2.2.2.2.2.2 (i + 1))) hR
  refine pp_callV (m := mtL_law) (as := [.int (w.2.2.2.2.2.2 (i + 1))]) (st := []) (rv := some (.int r)) (μ1 := μ1) (tx1 := tx) (st1 := [.int r]) dL_law_1305 ll_L_153 sh_0 (by decide) rfl (ctX11_joins h1) rfl (Nat.le_of_ble_eq_true rfl) (Nat.le_of_ble_eq_true rfl) hZ rfl rfl ?_
  show Go w 544 0 0 mtL_law 1308 (lwl i) [.int r] (go_mk tx μ1) Z
  refine go_aload_n dL_law_1308 1 rfl ?_
  refine la (j := 1) dL_law_1309 dL_law_1310 dL_law_1311 dL_law_1312 dL_law_1313 rfl (by decide) hi hL ?_
  show Go w 544 0 0 mtL_law 1314 (lwl i) [.int (w.2.2.2.2.2.2 (i + 1)), .ref 401, .int r] (go_mk tx μ1) Z
  refine pp_callV (m := mtL_law) (as := [.int (w.2.2.2.2.2.2 (i + 1))]) (st := [.int r]) (rv := some (.int r)) (μ1 := μ2) (tx1 := tx) (st1 := [.int r, .int r]) dL_law_1314 ll_L_156 sh_401 (by decide) rfl (ctX12_joins h2) rfl (Nat.le_of_ble_eq_true rfl) (Nat.le_of_ble_eq_true rfl) hZ rfl rfl ?_
  show Go w 544 0 0 mtL_law 1317 (lwl i) [.int r, .int r] (go_mk tx μ2) Z
  refine go_icmp_eq 1669 dL_law_1317 (by decide) (fun _ => K tx μ2 hR2) (fun hc => absurd rfl hc)
theorem lc_33 {w : go_Wd} {tx i : Nat} {μ : PM} {Z : go_ZT} (hZ : go_up Z) (hL : w.2.2.2.2.2.1 ≤ 3072) (hi : i + 6 ≤ w.2.2.2.2.2.1) (hR : RR μ μ) (K : ∀ tx' μ', RR μ' μ' → Go w 544 0 0 mtL_law 1669 (lwl i) [] (go_mk tx' μ') Z) : Go w 544 0 0 mtL_law 1322 (lwl i) [] (go_mk tx μ) Z := by
  refine go_aload_n dL_law_1322 2 rfl ?_
  refine la (j := 1) dL_law_1323 dL_law_1324 dL_law_1325 dL_law_1326 dL_law_1327 rfl (by decide) hi hL ?_
  show Go w 544 0 0 mtL_law 1328 (lwl i) [.int (w.2.2.2.2.2.2 (i + 1)), .ref 0] (go_mk tx μ) Z
  obtain ⟨r, h1, h2⟩ := c_layers (w.2.2.2.2.2.2 (i + 1)) hR
  refine pp_callV (m := mtL_law) (as := [.int (w.2.2.2.2.2.2 (i + 1))]) (st := []) (rv := some (.int r)) (μ1 := μ) (tx1 := tx) (st1 := [.int r]) dL_law_1328 ll_L_157 sh_0 (by decide) rfl (ctX11_layers h1) rfl (Nat.le_of_ble_eq_true rfl) (Nat.le_of_ble_eq_true rfl) hZ rfl rfl ?_
  show Go w 544 0 0 mtL_law 1331 (lwl i) [.int r] (go_mk tx μ) Z
  refine go_aload_n dL_law_1331 1 rfl ?_
  refine la (j := 1) dL_law_1332 dL_law_1333 dL_law_1334 dL_law_1335 dL_law_1336 rfl (by decide) hi hL ?_
  show Go w 544 0 0 mtL_law 1337 (lwl i) [.int (w.2.2.2.2.2.2 (i + 1)), .ref 401, .int r] (go_mk tx μ) Z
  refine pp_callV (m := mtL_law) (as := [.int (w.2.2.2.2.2.2 (i + 1))]) (st := [.int r]) (rv := some (.int r)) (μ1 := μ) (tx1 := tx) (st1 := [.int r, .int r]) dL_law_1337 ll_L_160 sh_401 (by decide) rfl (ctX12_layers h2) rfl (Nat.le_of_ble_eq_true rfl) (Nat.le_of_ble_eq_true rfl) hZ rfl rfl ?_
  show Go w 544 0 0 mtL_law 1340 (lwl i) [.int r, .int r] (go_mk tx μ) Z
  refine go_icmp_eq 1669 dL_law_1340 (by decide) (fun _ => K tx μ hR) (fun hc => absurd rfl hc)
theorem lc_34 {w : go_Wd} {tx i : Nat} {μ : PM} {Z : go_ZT} (hZ : go_up Z) (hL : w.2.2.2.2.2.1 ≤ 3072) (hi : i + 6 ≤ w.2.2.2.2.2.1) (hR : RR μ μ) (K : ∀ tx' μ', RR μ' μ' → Go w 544 0 0 mtL_law 1669 (lwl i) [] (go_mk tx' μ') Z) : Go w 544 0 0 mtL_law 1345 (lwl i) [] (go_mk tx μ) Z := by
  refine go_aload_n dL_law_1345 2 rfl ?_
  refine la (j := 1) dL_law_1346 dL_law_1347 dL_law_1348 dL_law_1349 dL_law_1350 rfl (by decide) hi hL ?_
  show Go w 544 0 0 mtL_law 1351 (lwl i) [.int (w.2.2.2.2.2.2 (i + 1)), .ref 0] (go_mk tx μ) Z
  refine la (j := 2) dL_law_1351 dL_law_1352 dL_law_1353 dL_law_1354 dL_law_1355 rfl (by decide) hi hL ?_
  show Go w 544 0 0 mtL_law 1356 (lwl i) [.int (w.2.2.2.2.2.2 (i + 2)), .int (w.2.2.2.2.2.2 (i + 1)), .ref 0] (go_mk tx μ) Z
  obtain ⟨r, h1, h2⟩ := c_rhyme (w.2.2.2.2.2.2 (i + 1)) (w.2.2.2.2.2.2 (i + 2)) hR
  refine pp_callV (m := mtL_law) (as := [.int (w.2.2.2.2.2.2 (i + 1)), .int (w.2.2.2.2.2.2 (i + 2))]) (st := []) (rv := some (.int r)) (μ1 := μ) (tx1 := tx) (st1 := [.int r]) dL_law_1356 ll_L_161 sh_0 (by decide) rfl (ctX11_rhyme h1) rfl (Nat.le_of_ble_eq_true rfl) (Nat.le_of_ble_eq_true rfl) hZ rfl rfl ?_
  show Go w 544 0 0 mtL_law 1359 (lwl i) [.int r] (go_mk tx μ) Z
  refine go_aload_n dL_law_1359 1 rfl ?_
  refine la (j := 1) dL_law_1360 dL_law_1361 dL_law_1362 dL_law_1363 dL_law_1364 rfl (by decide) hi hL ?_
  show Go w 544 0 0 mtL_law 1365 (lwl i) [.int (w.2.2.2.2.2.2 (i + 1)), .ref 401, .int r] (go_mk tx μ) Z
  refine la (j := 2) dL_law_1365 dL_law_1366 dL_law_1367 dL_law_1368 dL_law_1369 rfl (by decide) hi hL ?_
  show Go w 544 0 0 mtL_law 1370 (lwl i) [.int (w.2.2.2.2.2.2 (i + 2)), .int (w.2.2.2.2.2.2 (i + 1)), .ref 401, .int r] (go_mk tx μ) Z
  refine pp_callV (m := mtL_law) (as := [.int (w.2.2.2.2.2.2 (i + 1)), .int (w.2.2.2.2.2.2 (i + 2))]) (st := [.int r]) (rv := some (.int r)) (μ1 := μ) (tx1 := tx) (st1 := [.int r, .int r]) dL_law_1370 ll_L_164 sh_401 (by decide) rfl (ctX12_rhyme h2) rfl (Nat.le_of_ble_eq_true rfl) (Nat.le_of_ble_eq_true rfl) hZ rfl rfl ?_
  show Go w 544 0 0 mtL_law 1373 (lwl i) [.int r, .int r] (go_mk tx μ) Z
  refine go_icmp_eq 1669 dL_law_1373 (by decide) (fun _ => K tx μ hR) (fun hc => absurd rfl hc)
theorem lc_35 {w : go_Wd} {tx i : Nat} {μ : PM} {Z : go_ZT} (hZ : go_up Z) (hL : w.2.2.2.2.2.1 ≤ 3072) (hi : i + 6 ≤ w.2.2.2.2.2.1) (hR : RR μ μ) (K : ∀ tx' μ', RR μ' μ' → Go w 544 0 0 mtL_law 1669 (lwl i) [] (go_mk tx' μ') Z) : Go w 544 0 0 mtL_law 1378 (lwl i) [] (go_mk tx μ) Z := by
  refine go_aload_n dL_law_1378 2 rfl ?_
  refine la (j := 1) dL_law_1379 dL_law_1380 dL_law_1381 dL_law_1382 dL_law_1383 rfl (by decide) hi hL ?_
  show Go w 544 0 0 mtL_law 1384 (lwl i) [.int (w.2.2.2.2.2.2 (i + 1)), .ref 0] (go_mk tx μ) Z
  obtain ⟨r, h1, h2⟩ := c_kindred (w.2.2.2.2.2.2 (i + 1)) hR
  refine pp_callV (m := mtL_law) (as := [.int (w.2.2.2.2.2.2 (i + 1))]) (st := []) (rv := some (.int r)) (μ1 := μ) (tx1 := tx) (st1 := [.int r]) dL_law_1384 ll_L_165 sh_0 (by decide) rfl (ctX11_kindred h1) rfl (Nat.le_of_ble_eq_true rfl) (Nat.le_of_ble_eq_true rfl) hZ rfl rfl ?_
  show Go w 544 0 0 mtL_law 1387 (lwl i) [.int r] (go_mk tx μ) Z
  refine go_aload_n dL_law_1387 1 rfl ?_
  refine la (j := 1) dL_law_1388 dL_law_1389 dL_law_1390 dL_law_1391 dL_law_1392 rfl (by decide) hi hL ?_
  show Go w 544 0 0 mtL_law 1393 (lwl i) [.int (w.2.2.2.2.2.2 (i + 1)), .ref 401, .int r] (go_mk tx μ) Z
  refine pp_callV (m := mtL_law) (as := [.int (w.2.2.2.2.2.2 (i + 1))]) (st := [.int r]) (rv := some (.int r)) (μ1 := μ) (tx1 := tx) (st1 := [.int r, .int r]) dL_law_1393 ll_L_168 sh_401 (by decide) rfl (ctX12_kindred h2) rfl (Nat.le_of_ble_eq_true rfl) (Nat.le_of_ble_eq_true rfl) hZ rfl rfl ?_
  show Go w 544 0 0 mtL_law 1396 (lwl i) [.int r, .int r] (go_mk tx μ) Z
  refine go_icmp_eq 1669 dL_law_1396 (by decide) (fun _ => K tx μ hR) (fun hc => absurd rfl hc)
theorem lc_36 {w : go_Wd} {tx i : Nat} {μ : PM} {Z : go_ZT} (hZ : go_up Z) (hL : w.2.2.2.2.2.1 ≤ 3072) (hi : i + 6 ≤ w.2.2.2.2.2.1) (hR : RR μ μ) (K : ∀ tx' μ', RR μ' μ' → Go w 544 0 0 mtL_law 1669 (lwl i) [] (go_mk tx' μ') Z) : Go w 544 0 0 mtL_law 1401 (lwl i) [] (go_mk tx μ) Z := by
  refine go_aload_n dL_law_1401 2 rfl ?_
  refine la (j := 1) dL_law_1402 dL_law_1403 dL_law_1404 dL_law_1405 dL_law_1406 rfl (by decide) hi hL ?_
  show Go w 544 0 0 mtL_law 1407 (lwl i) [.int (w.2.2.2.2.2.2 (i + 1)), .ref 0] (go_mk tx μ) Z
  obtain ⟨r, μ1, μ2, h1, h2, hR2⟩ := RR_both (c_quota (w.2.2.2.2.2.2 (i + 1))) hR
  refine pp_callV (m := mtL_law) (as := [.int (w.2.2.2.2.2.2 (i + 1))]) (st := []) (rv := some (.int r)) (μ1 := μ1) (tx1 := tx) (st1 := [.int r]) dL_law_1407 ll_L_169 sh_0 (by decide) rfl (ctX11_quota (Option.some.inj h1)) rfl (Nat.le_of_ble_eq_true rfl) (Nat.le_of_ble_eq_true rfl) hZ rfl rfl ?_
  show Go w 544 0 0 mtL_law 1410 (lwl i) [.int r] (go_mk tx μ1) Z
  refine go_aload_n dL_law_1410 1 rfl ?_
  refine la (j := 1) dL_law_1411 dL_law_1412 dL_law_1413 dL_law_1414 dL_law_1415 rfl (by decide) hi hL ?_
  show Go w 544 0 0 mtL_law 1416 (lwl i) [.int (w.2.2.2.2.2.2 (i + 1)), .ref 401, .int r] (go_mk tx μ1) Z
  refine pp_callV (m := mtL_law) (as := [.int (w.2.2.2.2.2.2 (i + 1))]) (st := [.int r]) (rv := some (.int r)) (μ1 := μ2) (tx1 := tx) (st1 := [.int r, .int r]) dL_law_1416 ll_L_172 sh_401 (by decide) rfl (ctX12_quota (Option.some.inj h2)) rfl (Nat.le_of_ble_eq_true rfl) (Nat.le_of_ble_eq_true rfl) hZ rfl rfl ?_
  show Go w 544 0 0 mtL_law 1419 (lwl i) [.int r, .int r] (go_mk tx μ2) Z
  refine go_icmp_eq 1669 dL_law_1419 (by decide) (fun _ => K tx μ2 hR2) (fun hc => absurd rfl hc)
theorem lc_37 {w : go_Wd} {tx i : Nat} {μ : PM} {Z : go_ZT} (hZ : go_up Z) (hL : w.2.2.2.2.2.1 ≤ 3072) (hi : i + 6 ≤ w.2.2.2.2.2.1) (hR : RR μ μ) (K : ∀ tx' μ', RR μ' μ' → Go w 544 0 0 mtL_law 1669 (lwl i) [] (go_mk tx' μ') Z) : Go w 544 0 0 mtL_law 1424 (lwl i) [] (go_mk tx μ) Z := by
  refine go_aload_n dL_law_1424 2 rfl ?_
  refine la (j := 1) dL_law_1425 dL_law_1426 dL_law_1427 dL_law_1428 dL_law_1429 rfl (by decide) hi hL ?_
  show Go w 544 0 0 mtL_law 1430 (lwl i) [.int (w.2.2.2.2.2.2 (i + 1)), .ref 0] (go_mk tx μ) Z
  refine la (j := 2) dL_law_1430 dL_law_1431 dL_law_1432 dL_law_1433 dL_law_1434 rfl (by decide) hi hL ?_
  refine lb dL_law_1435 dL_law_1438 dL_law_1439 dL_law_1442 ?_
  show Go w 544 0 0 mtL_law 1443 (lwl i) [.int (if (w.2.2.2.2.2.2 (i + 2)) = 0 then (0 : Int32) else 1), .int (w.2.2.2.2.2.2 (i + 1)), .ref 0] (go_mk tx μ) Z
  obtain ⟨r, h1, h2⟩ := c_power (w.2.2.2.2.2.2 (i + 1)) (if (w.2.2.2.2.2.2 (i + 2)) = 0 then (0 : Int32) else 1) hR
  refine pp_callV (m := mtL_law) (as := [.int (w.2.2.2.2.2.2 (i + 1)), .int (if (w.2.2.2.2.2.2 (i + 2)) = 0 then (0 : Int32) else 1)]) (st := []) (rv := some (.int r)) (μ1 := μ) (tx1 := tx) (st1 := [.int r]) dL_law_1443 ll_L_173 sh_0 (by decide) rfl (ctX11_power h1) rfl (Nat.le_of_ble_eq_true rfl) (Nat.le_of_ble_eq_true rfl) hZ rfl rfl ?_
  show Go w 544 0 0 mtL_law 1446 (lwl i) [.int r] (go_mk tx μ) Z
  refine go_aload_n dL_law_1446 1 rfl ?_
  refine la (j := 1) dL_law_1447 dL_law_1448 dL_law_1449 dL_law_1450 dL_law_1451 rfl (by decide) hi hL ?_
  show Go w 544 0 0 mtL_law 1452 (lwl i) [.int (w.2.2.2.2.2.2 (i + 1)), .ref 401, .int r] (go_mk tx μ) Z
  refine la (j := 2) dL_law_1452 dL_law_1453 dL_law_1454 dL_law_1455 dL_law_1456 rfl (by decide) hi hL ?_
  refine lb dL_law_1457 dL_law_1460 dL_law_1461 dL_law_1464 ?_
  show Go w 544 0 0 mtL_law 1465 (lwl i) [.int (if (w.2.2.2.2.2.2 (i + 2)) = 0 then (0 : Int32) else 1), .int (w.2.2.2.2.2.2 (i + 1)), .ref 401, .int r] (go_mk tx μ) Z
  refine pp_callV (m := mtL_law) (as := [.int (w.2.2.2.2.2.2 (i + 1)), .int (if (w.2.2.2.2.2.2 (i + 2)) = 0 then (0 : Int32) else 1)]) (st := [.int r]) (rv := some (.int r)) (μ1 := μ) (tx1 := tx) (st1 := [.int r, .int r]) dL_law_1465 ll_L_176 sh_401 (by decide) rfl (ctX12_power h2) rfl (Nat.le_of_ble_eq_true rfl) (Nat.le_of_ble_eq_true rfl) hZ rfl rfl ?_
  show Go w 544 0 0 mtL_law 1468 (lwl i) [.int r, .int r] (go_mk tx μ) Z
  refine go_icmp_eq 1669 dL_law_1468 (by decide) (fun _ => K tx μ hR) (fun hc => absurd rfl hc)
theorem lc_38 {w : go_Wd} {tx i : Nat} {μ : PM} {Z : go_ZT} (hZ : go_up Z) (hL : w.2.2.2.2.2.1 ≤ 3072) (hi : i + 6 ≤ w.2.2.2.2.2.1) (hR : RR μ μ) (K : ∀ tx' μ', RR μ' μ' → Go w 544 0 0 mtL_law 1669 (lwl i) [] (go_mk tx' μ') Z) : Go w 544 0 0 mtL_law 1473 (lwl i) [] (go_mk tx μ) Z := by
  refine go_aload_n dL_law_1473 2 rfl ?_
  obtain ⟨r, h1, h2⟩ := c_dummies hR
  refine pp_callV (m := mtL_law) (as := []) (st := []) (rv := some (.int r)) (μ1 := μ) (tx1 := tx) (st1 := [.int r]) dL_law_1474 ll_L_177 sh_0 (by decide) rfl (ctX11_dummies h1) rfl (Nat.le_of_ble_eq_true rfl) (Nat.le_of_ble_eq_true rfl) hZ rfl rfl ?_
  show Go w 544 0 0 mtL_law 1477 (lwl i) [.int r] (go_mk tx μ) Z
  refine go_aload_n dL_law_1477 1 rfl ?_
  refine pp_callV (m := mtL_law) (as := []) (st := [.int r]) (rv := some (.int r)) (μ1 := μ) (tx1 := tx) (st1 := [.int r, .int r]) dL_law_1478 ll_L_180 sh_401 (by decide) rfl (ctX12_dummies h2) rfl (Nat.le_of_ble_eq_true rfl) (Nat.le_of_ble_eq_true rfl) hZ rfl rfl ?_
  show Go w 544 0 0 mtL_law 1481 (lwl i) [.int r, .int r] (go_mk tx μ) Z
  refine go_icmp_eq 1669 dL_law_1481 (by decide) (fun _ => K tx μ hR) (fun hc => absurd rfl hc)
theorem lc_39 {w : go_Wd} {tx i : Nat} {μ : PM} {Z : go_ZT} (hZ : go_up Z) (hL : w.2.2.2.2.2.1 ≤ 3072) (hi : i + 6 ≤ w.2.2.2.2.2.1) (hR : RR μ μ) (K : ∀ tx' μ', RR μ' μ' → Go w 544 0 0 mtL_law 1669 (lwl i) [] (go_mk tx' μ') Z) : Go w 544 0 0 mtL_law 1486 (lwl i) [] (go_mk tx μ) Z := by
  refine go_aload_n dL_law_1486 2 rfl ?_
  obtain ⟨r, h1, h2⟩ := c_veto hR
  refine pp_callV (m := mtL_law) (as := []) (st := []) (rv := some (.int r)) (μ1 := μ) (tx1 := tx) (st1 := [.int r]) dL_law_1487 ll_L_181 sh_0 (by decide) rfl (ctX11_veto h1) rfl (Nat.le_of_ble_eq_true rfl) (Nat.le_of_ble_eq_true rfl) hZ rfl rfl ?_
  show Go w 544 0 0 mtL_law 1490 (lwl i) [.int r] (go_mk tx μ) Z
  refine go_aload_n dL_law_1490 1 rfl ?_
  refine pp_callV (m := mtL_law) (as := []) (st := [.int r]) (rv := some (.int r)) (μ1 := μ) (tx1 := tx) (st1 := [.int r, .int r]) dL_law_1491 ll_L_184 sh_401 (by decide) rfl (ctX12_veto h2) rfl (Nat.le_of_ble_eq_true rfl) (Nat.le_of_ble_eq_true rfl) hZ rfl rfl ?_
  show Go w 544 0 0 mtL_law 1494 (lwl i) [.int r, .int r] (go_mk tx μ) Z
  refine go_icmp_eq 1669 dL_law_1494 (by decide) (fun _ => K tx μ hR) (fun hc => absurd rfl hc)
theorem lc_40 {w : go_Wd} {tx i : Nat} {μ : PM} {Z : go_ZT} (hZ : go_up Z) (hL : w.2.2.2.2.2.1 ≤ 3072) (hi : i + 6 ≤ w.2.2.2.2.2.1) (hR : RR μ μ) (K : ∀ tx' μ', RR μ' μ' → Go w 544 0 0 mtL_law 1669 (lwl i) [] (go_mk tx' μ') Z) : Go w 544 0 0 mtL_law 1499 (lwl i) [] (go_mk tx μ) Z := by
  refine go_aload_n dL_law_1499 2 rfl ?_
  obtain ⟨r, h1, h2⟩ := c_coalitions hR
  refine pp_callV (m := mtL_law) (as := []) (st := []) (rv := some (.int r)) (μ1 := μ) (tx1 := tx) (st1 := [.int r]) dL_law_1500 ll_L_185 sh_0 (by decide) rfl (ctX11_coalitions h1) rfl (Nat.le_of_ble_eq_true rfl) (Nat.le_of_ble_eq_true rfl) hZ rfl rfl ?_
  show Go w 544 0 0 mtL_law 1503 (lwl i) [.int r] (go_mk tx μ) Z
  refine go_aload_n dL_law_1503 1 rfl ?_
  refine pp_callV (m := mtL_law) (as := []) (st := [.int r]) (rv := some (.int r)) (μ1 := μ) (tx1 := tx) (st1 := [.int r, .int r]) dL_law_1504 ll_L_188 sh_401 (by decide) rfl (ctX12_coalitions h2) rfl (Nat.le_of_ble_eq_true rfl) (Nat.le_of_ble_eq_true rfl) hZ rfl rfl ?_
  show Go w 544 0 0 mtL_law 1507 (lwl i) [.int r, .int r] (go_mk tx μ) Z
  refine go_icmp_eq 1669 dL_law_1507 (by decide) (fun _ => K tx μ hR) (fun hc => absurd rfl hc)
theorem lc_41 {w : go_Wd} {tx i : Nat} {μ : PM} {Z : go_ZT} (hZ : go_up Z) (hL : w.2.2.2.2.2.1 ≤ 3072) (hi : i + 6 ≤ w.2.2.2.2.2.1) (hR : RR μ μ) (K : ∀ tx' μ', RR μ' μ' → Go w 544 0 0 mtL_law 1669 (lwl i) [] (go_mk tx' μ') Z) : Go w 544 0 0 mtL_law 1512 (lwl i) [] (go_mk tx μ) Z := by
  refine go_aload_n dL_law_1512 2 rfl ?_
  refine la (j := 1) dL_law_1513 dL_law_1514 dL_law_1515 dL_law_1516 dL_law_1517 rfl (by decide) hi hL ?_
  show Go w 544 0 0 mtL_law 1518 (lwl i) [.int (w.2.2.2.2.2.2 (i + 1)), .ref 0] (go_mk tx μ) Z
  refine la (j := 2) dL_law_1518 dL_law_1519 dL_law_1520 dL_law_1521 dL_law_1522 rfl (by decide) hi hL ?_
  show Go w 544 0 0 mtL_law 1523 (lwl i) [.int (w.2.2.2.2.2.2 (i + 2)), .int (w.2.2.2.2.2.2 (i + 1)), .ref 0] (go_mk tx μ) Z
  obtain ⟨r, μ1, μ2, h1, h2, hR2⟩ := RR_both (c_said (w.2.2.2.2.2.2 (i + 1)) (w.2.2.2.2.2.2 (i + 2))) hR
  refine pp_callV (m := mtL_law) (as := [.int (w.2.2.2.2.2.2 (i + 1)), .int (w.2.2.2.2.2.2 (i + 2))]) (st := []) (rv := some (.int r)) (μ1 := μ1) (tx1 := tx) (st1 := [.int r]) dL_law_1523 ll_L_189 sh_0 (by decide) rfl (ctX11_said h1) rfl (Nat.le_of_ble_eq_true rfl) (Nat.le_of_ble_eq_true rfl) hZ rfl rfl ?_
  show Go w 544 0 0 mtL_law 1526 (lwl i) [.int r] (go_mk tx μ1) Z
  refine go_aload_n dL_law_1526 1 rfl ?_
  refine la (j := 1) dL_law_1527 dL_law_1528 dL_law_1529 dL_law_1530 dL_law_1531 rfl (by decide) hi hL ?_
  show Go w 544 0 0 mtL_law 1532 (lwl i) [.int (w.2.2.2.2.2.2 (i + 1)), .ref 401, .int r] (go_mk tx μ1) Z
  refine la (j := 2) dL_law_1532 dL_law_1533 dL_law_1534 dL_law_1535 dL_law_1536 rfl (by decide) hi hL ?_
  show Go w 544 0 0 mtL_law 1537 (lwl i) [.int (w.2.2.2.2.2.2 (i + 2)), .int (w.2.2.2.2.2.2 (i + 1)), .ref 401, .int r] (go_mk tx μ1) Z
  refine pp_callV (m := mtL_law) (as := [.int (w.2.2.2.2.2.2 (i + 1)), .int (w.2.2.2.2.2.2 (i + 2))]) (st := [.int r]) (rv := some (.int r)) (μ1 := μ2) (tx1 := tx) (st1 := [.int r, .int r]) dL_law_1537 ll_L_192 sh_401 (by decide) rfl (ctX12_said h2) rfl (Nat.le_of_ble_eq_true rfl) (Nat.le_of_ble_eq_true rfl) hZ rfl rfl ?_
  show Go w 544 0 0 mtL_law 1540 (lwl i) [.int r, .int r] (go_mk tx μ2) Z
  refine go_icmp_eq 1669 dL_law_1540 (by decide) (fun _ => K tx μ2 hR2) (fun hc => absurd rfl hc)
theorem lc_42 {w : go_Wd} {tx i : Nat} {μ : PM} {Z : go_ZT} (hZ : go_up Z) (hL : w.2.2.2.2.2.1 ≤ 3072) (hi : i + 6 ≤ w.2.2.2.2.2.1) (hR : RR μ μ) (K : ∀ tx' μ', RR μ' μ' → Go w 544 0 0 mtL_law 1669 (lwl i) [] (go_mk tx' μ') Z) : Go w 544 0 0 mtL_law 1545 (lwl i) [] (go_mk tx μ) Z := by
  refine go_aload_n dL_law_1545 2 rfl ?_
  obtain ⟨r, μ1, μ2, h1, h2, hR2⟩ := RR_both (c_whose) hR
  refine pp_callV (m := mtL_law) (as := []) (st := []) (rv := some (.int r)) (μ1 := μ1) (tx1 := tx) (st1 := [.int r]) dL_law_1546 ll_L_193 sh_0 (by decide) rfl (ctX11_whose h1) rfl (Nat.le_of_ble_eq_true rfl) (Nat.le_of_ble_eq_true rfl) hZ rfl rfl ?_
  show Go w 544 0 0 mtL_law 1549 (lwl i) [.int r] (go_mk tx μ1) Z
  refine go_aload_n dL_law_1549 1 rfl ?_
  refine pp_callV (m := mtL_law) (as := []) (st := [.int r]) (rv := some (.int r)) (μ1 := μ2) (tx1 := tx) (st1 := [.int r, .int r]) dL_law_1550 ll_L_196 sh_401 (by decide) rfl (ctX12_whose h2) rfl (Nat.le_of_ble_eq_true rfl) (Nat.le_of_ble_eq_true rfl) hZ rfl rfl ?_
  show Go w 544 0 0 mtL_law 1553 (lwl i) [.int r, .int r] (go_mk tx μ2) Z
  refine go_icmp_eq 1669 dL_law_1553 (by decide) (fun _ => K tx μ2 hR2) (fun hc => absurd rfl hc)
theorem lc_43 {w : go_Wd} {tx i : Nat} {μ : PM} {Z : go_ZT} (hZ : go_up Z) (hL : w.2.2.2.2.2.1 ≤ 3072) (hi : i + 6 ≤ w.2.2.2.2.2.1) (hR : RR μ μ) (K : ∀ tx' μ', RR μ' μ' → Go w 544 0 0 mtL_law 1669 (lwl i) [] (go_mk tx' μ') Z) : Go w 544 0 0 mtL_law 1558 (lwl i) [] (go_mk tx μ) Z := by
  refine go_aload_n dL_law_1558 2 rfl ?_
  obtain ⟨r, h1, h2⟩ := c_richest hR
  refine pp_callV (m := mtL_law) (as := []) (st := []) (rv := some (.int r)) (μ1 := μ) (tx1 := tx) (st1 := [.int r]) dL_law_1559 ll_L_197 sh_0 (by decide) rfl (ctX11_richest h1) rfl (Nat.le_of_ble_eq_true rfl) (Nat.le_of_ble_eq_true rfl) hZ rfl rfl ?_
  show Go w 544 0 0 mtL_law 1562 (lwl i) [.int r] (go_mk tx μ) Z
  refine go_aload_n dL_law_1562 1 rfl ?_
  refine pp_callV (m := mtL_law) (as := []) (st := [.int r]) (rv := some (.int r)) (μ1 := μ) (tx1 := tx) (st1 := [.int r, .int r]) dL_law_1563 ll_L_200 sh_401 (by decide) rfl (ctX12_richest h2) rfl (Nat.le_of_ble_eq_true rfl) (Nat.le_of_ble_eq_true rfl) hZ rfl rfl ?_
  show Go w 544 0 0 mtL_law 1566 (lwl i) [.int r, .int r] (go_mk tx μ) Z
  refine go_icmp_eq 1669 dL_law_1566 (by decide) (fun _ => K tx μ hR) (fun hc => absurd rfl hc)
theorem lc_44 {w : go_Wd} {tx i : Nat} {μ : PM} {Z : go_ZT} (hZ : go_up Z) (hL : w.2.2.2.2.2.1 ≤ 3072) (hi : i + 6 ≤ w.2.2.2.2.2.1) (hR : RR μ μ) (K : ∀ tx' μ', RR μ' μ' → Go w 544 0 0 mtL_law 1669 (lwl i) [] (go_mk tx' μ') Z) : Go w 544 0 0 mtL_law 1571 (lwl i) [] (go_mk tx μ) Z := by
  refine go_aload_n dL_law_1571 2 rfl ?_
  obtain ⟨r, h1, h2⟩ := c_next hR
  refine pp_callV (m := mtL_law) (as := []) (st := []) (rv := some (.int r)) (μ1 := μ) (tx1 := tx) (st1 := [.int r]) dL_law_1572 ll_L_201 sh_0 (by decide) rfl (ctX11_next h1) rfl (Nat.le_of_ble_eq_true rfl) (Nat.le_of_ble_eq_true rfl) hZ rfl rfl ?_
  show Go w 544 0 0 mtL_law 1575 (lwl i) [.int r] (go_mk tx μ) Z
  refine go_aload_n dL_law_1575 1 rfl ?_
  refine pp_callV (m := mtL_law) (as := []) (st := [.int r]) (rv := some (.int r)) (μ1 := μ) (tx1 := tx) (st1 := [.int r, .int r]) dL_law_1576 ll_L_204 sh_401 (by decide) rfl (ctX12_next h2) rfl (Nat.le_of_ble_eq_true rfl) (Nat.le_of_ble_eq_true rfl) hZ rfl rfl ?_
  show Go w 544 0 0 mtL_law 1579 (lwl i) [.int r, .int r] (go_mk tx μ) Z
  refine go_icmp_eq 1669 dL_law_1579 (by decide) (fun _ => K tx μ hR) (fun hc => absurd rfl hc)
theorem lc_45 {w : go_Wd} {tx i : Nat} {μ : PM} {Z : go_ZT} (hZ : go_up Z) (hL : w.2.2.2.2.2.1 ≤ 3072) (hi : i + 6 ≤ w.2.2.2.2.2.1) (hR : RR μ μ) (K : ∀ tx' μ', RR μ' μ' → Go w 544 0 0 mtL_law 1669 (lwl i) [] (go_mk tx' μ') Z) : Go w 544 0 0 mtL_law 1584 (lwl i) [] (go_mk tx μ) Z := by
  refine go_aload_n dL_law_1584 2 rfl ?_
  obtain ⟨r, h1, h2⟩ := c_frozen hR
  refine pp_callV (m := mtL_law) (as := []) (st := []) (rv := some (.int r)) (μ1 := μ) (tx1 := tx) (st1 := [.int r]) dL_law_1585 ll_L_205 sh_0 (by decide) rfl (ctX11_frozen h1) rfl (Nat.le_of_ble_eq_true rfl) (Nat.le_of_ble_eq_true rfl) hZ rfl rfl ?_
  show Go w 544 0 0 mtL_law 1588 (lwl i) [.int r] (go_mk tx μ) Z
  refine go_aload_n dL_law_1588 1 rfl ?_
  refine pp_callV (m := mtL_law) (as := []) (st := [.int r]) (rv := some (.int r)) (μ1 := μ) (tx1 := tx) (st1 := [.int r, .int r]) dL_law_1589 ll_L_208 sh_401 (by decide) rfl (ctX12_frozen h2) rfl (Nat.le_of_ble_eq_true rfl) (Nat.le_of_ble_eq_true rfl) hZ rfl rfl ?_
  show Go w 544 0 0 mtL_law 1592 (lwl i) [.int r, .int r] (go_mk tx μ) Z
  refine go_icmp_eq 1669 dL_law_1592 (by decide) (fun _ => K tx μ hR) (fun hc => absurd rfl hc)
theorem lc_46 {w : go_Wd} {tx i : Nat} {μ : PM} {Z : go_ZT} (hZ : go_up Z) (hL : w.2.2.2.2.2.1 ≤ 3072) (hi : i + 6 ≤ w.2.2.2.2.2.1) (hR : RR μ μ) (K : ∀ tx' μ', RR μ' μ' → Go w 544 0 0 mtL_law 1669 (lwl i) [] (go_mk tx' μ') Z) : Go w 544 0 0 mtL_law 1597 (lwl i) [] (go_mk tx μ) Z := by
  refine go_aload_n dL_law_1597 2 rfl ?_
  refine la (j := 1) dL_law_1598 dL_law_1599 dL_law_1600 dL_law_1601 dL_law_1602 rfl (by decide) hi hL ?_
  show Go w 544 0 0 mtL_law 1603 (lwl i) [.int (w.2.2.2.2.2.2 (i + 1)), .ref 0] (go_mk tx μ) Z
  obtain ⟨r, h1, h2⟩ := c_ledger (w.2.2.2.2.2.2 (i + 1)) hR
  refine pp_callV (m := mtL_law) (as := [.int (w.2.2.2.2.2.2 (i + 1))]) (st := []) (rv := some (.int r)) (μ1 := μ) (tx1 := tx) (st1 := [.int r]) dL_law_1603 ll_L_209 sh_0 (by decide) rfl (ctX11_ledger h1) rfl (Nat.le_of_ble_eq_true rfl) (Nat.le_of_ble_eq_true rfl) hZ rfl rfl ?_
  show Go w 544 0 0 mtL_law 1606 (lwl i) [.int r] (go_mk tx μ) Z
  refine go_aload_n dL_law_1606 1 rfl ?_
  refine la (j := 1) dL_law_1607 dL_law_1608 dL_law_1609 dL_law_1610 dL_law_1611 rfl (by decide) hi hL ?_
  show Go w 544 0 0 mtL_law 1612 (lwl i) [.int (w.2.2.2.2.2.2 (i + 1)), .ref 401, .int r] (go_mk tx μ) Z
  refine pp_callV (m := mtL_law) (as := [.int (w.2.2.2.2.2.2 (i + 1))]) (st := [.int r]) (rv := some (.int r)) (μ1 := μ) (tx1 := tx) (st1 := [.int r, .int r]) dL_law_1612 ll_L_212 sh_401 (by decide) rfl (ctX12_ledger h2) rfl (Nat.le_of_ble_eq_true rfl) (Nat.le_of_ble_eq_true rfl) hZ rfl rfl ?_
  show Go w 544 0 0 mtL_law 1615 (lwl i) [.int r, .int r] (go_mk tx μ) Z
  refine go_icmp_eq 1669 dL_law_1615 (by decide) (fun _ => K tx μ hR) (fun hc => absurd rfl hc)
theorem lc_47 {w : go_Wd} {tx i : Nat} {μ : PM} {Z : go_ZT} (hZ : go_up Z) (hL : w.2.2.2.2.2.1 ≤ 3072) (hi : i + 6 ≤ w.2.2.2.2.2.1) (hR : RR μ μ) (K : ∀ tx' μ', RR μ' μ' → Go w 544 0 0 mtL_law 1669 (lwl i) [] (go_mk tx' μ') Z) : Go w 544 0 0 mtL_law 1620 (lwl i) [] (go_mk tx μ) Z := by
  refine go_aload_n dL_law_1620 2 rfl ?_
  obtain ⟨r, μ1, μ2, h1, h2, hR2⟩ := RR_both (c_image) hR
  refine pp_callV (m := mtL_law) (as := []) (st := []) (rv := some (.int r)) (μ1 := μ1) (tx1 := tx) (st1 := [.int r]) dL_law_1621 ll_L_213 sh_0 (by decide) rfl (ctX11_image h1) rfl (Nat.le_of_ble_eq_true rfl) (Nat.le_of_ble_eq_true rfl) hZ rfl rfl ?_
  show Go w 544 0 0 mtL_law 1624 (lwl i) [.int r] (go_mk tx μ1) Z
  refine go_aload_n dL_law_1624 1 rfl ?_
  refine pp_callV (m := mtL_law) (as := []) (st := [.int r]) (rv := some (.int r)) (μ1 := μ2) (tx1 := tx) (st1 := [.int r, .int r]) dL_law_1625 ll_L_216 sh_401 (by decide) rfl (ctX12_image h2) rfl (Nat.le_of_ble_eq_true rfl) (Nat.le_of_ble_eq_true rfl) hZ rfl rfl ?_
  show Go w 544 0 0 mtL_law 1628 (lwl i) [.int r, .int r] (go_mk tx μ2) Z
  refine go_icmp_eq 1669 dL_law_1628 (by decide) (fun _ => K tx μ2 hR2) (fun hc => absurd rfl hc)
theorem lc_48 {w : go_Wd} {tx i : Nat} {μ : PM} {Z : go_ZT} (hZ : go_up Z) (hL : w.2.2.2.2.2.1 ≤ 3072) (hi : i + 6 ≤ w.2.2.2.2.2.1) (hR : RR μ μ) (K : ∀ tx' μ', RR μ' μ' → Go w 544 0 0 mtL_law 1669 (lwl i) [] (go_mk tx' μ') Z) : Go w 544 0 0 mtL_law 1633 (lwl i) [] (go_mk tx μ) Z := by
  refine go_aload_n dL_law_1633 2 rfl ?_
  obtain ⟨r, μ1, μ2, h1, h2, hR2⟩ := RR_both (c_back) hR
  refine pp_callV (m := mtL_law) (as := []) (st := []) (rv := some (.int r)) (μ1 := μ1) (tx1 := tx) (st1 := [.int r]) dL_law_1634 ll_L_217 sh_0 (by decide) rfl (ctX11_back h1) rfl (Nat.le_of_ble_eq_true rfl) (Nat.le_of_ble_eq_true rfl) hZ rfl rfl ?_
  show Go w 544 0 0 mtL_law 1637 (lwl i) [.int r] (go_mk tx μ1) Z
  refine go_aload_n dL_law_1637 1 rfl ?_
  refine pp_callV (m := mtL_law) (as := []) (st := [.int r]) (rv := some (.int r)) (μ1 := μ2) (tx1 := tx) (st1 := [.int r, .int r]) dL_law_1638 ll_L_220 sh_401 (by decide) rfl (ctX12_back h2) rfl (Nat.le_of_ble_eq_true rfl) (Nat.le_of_ble_eq_true rfl) hZ rfl rfl ?_
  show Go w 544 0 0 mtL_law 1641 (lwl i) [.int r, .int r] (go_mk tx μ2) Z
  refine go_icmp_eq 1669 dL_law_1641 (by decide) (fun _ => K tx μ2 hR2) (fun hc => absurd rfl hc)
theorem lc_49 {w : go_Wd} {tx i : Nat} {μ : PM} {Z : go_ZT} (hZ : go_up Z) (hL : w.2.2.2.2.2.1 ≤ 3072) (hi : i + 6 ≤ w.2.2.2.2.2.1) (hR : RR μ μ) (K : ∀ tx' μ', RR μ' μ' → Go w 544 0 0 mtL_law 1669 (lwl i) [] (go_mk tx' μ') Z) : Go w 544 0 0 mtL_law 1646 (lwl i) [] (go_mk tx μ) Z := by
  refine go_aload_n dL_law_1646 2 rfl ?_
  refine la (j := 1) dL_law_1647 dL_law_1648 dL_law_1649 dL_law_1650 dL_law_1651 rfl (by decide) hi hL ?_
  show Go w 544 0 0 mtL_law 1652 (lwl i) [.int (w.2.2.2.2.2.2 (i + 1)), .ref 0] (go_mk tx μ) Z
  obtain ⟨r, h1⟩ : ∃ r, fX11_about μ (w.2.2.2.2.2.2 (i + 1)) = r := ⟨_, rfl⟩
  have h2 := c_about (w.2.2.2.2.2.2 (i + 1)) hR
  rw [h1] at h2
  refine pp_callV (m := mtL_law) (as := [.int (w.2.2.2.2.2.2 (i + 1))]) (st := []) (rv := some (.int r)) (μ1 := μ) (tx1 := tx) (st1 := [.int r]) dL_law_1652 ll_L_221 sh_0 (by decide) rfl (ctX11_about h1) rfl (Nat.le_of_ble_eq_true rfl) (Nat.le_of_ble_eq_true rfl) hZ rfl rfl ?_
  show Go w 544 0 0 mtL_law 1655 (lwl i) [.int r] (go_mk tx μ) Z
  refine go_aload_n dL_law_1655 1 rfl ?_
  refine la (j := 1) dL_law_1656 dL_law_1657 dL_law_1658 dL_law_1659 dL_law_1660 rfl (by decide) hi hL ?_
  show Go w 544 0 0 mtL_law 1661 (lwl i) [.int (w.2.2.2.2.2.2 (i + 1)), .ref 401, .int r] (go_mk tx μ) Z
  refine pp_callV (m := mtL_law) (as := [.int (w.2.2.2.2.2.2 (i + 1))]) (st := [.int r]) (rv := some (.int r)) (μ1 := μ) (tx1 := tx) (st1 := [.int r, .int r]) dL_law_1661 ll_L_224 sh_401 (by decide) rfl (ctX12_about h2) rfl (Nat.le_of_ble_eq_true rfl) (Nat.le_of_ble_eq_true rfl) hZ rfl rfl ?_
  show Go w 544 0 0 mtL_law 1664 (lwl i) [.int r, .int r] (go_mk tx μ) Z
  refine go_icmp_eq 1669 dL_law_1664 (by decide) (fun _ => K tx μ hR) (fun hc => absurd rfl hc)
