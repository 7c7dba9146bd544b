/-! ===== the law: one case after another ===== -/
def cvW (ν : Mm) : Option Value × Mm := (some (.int 1), ν)
section LAW
variable {sb sL : Nat} {sx : Nat → Int32} {g : GG} {μ : Mm} {i F : Nat} {o : Option Mm}
abbrev lvL (sb : Nat) (g : GG) (i : Nat) : List (Nat × Value) := [(3, .int (nI i)), (0, .ref sb), (1, .ref (gb g + 0)), (2, .ref (gb g + 141))]
abbrev GL (sb sL : Nat) (sx : Nat → Int32) (g : GG) (pc i : Nat) (st : List Value) (μ : Mm) (o : Option Mm) : Prop := GoL sb sL sx g RL cL_law 4 .ireturn 120 cvW pc (lvL sb g i) st μ o
theorem k_icmpT {lv : List (Nat × Value)} {st : List Value} {pc : Nat} {x : Int32} {off : Int} {tgt : Nat} (hd : decode cL_law pc = .ok (.if_icmp .eq off, 3)) (ht : (pc : Int) + off = (tgt : Int)) (kt : GoL sb sL sx g RL cL_law 4 .ireturn 120 cvW tgt lv st μ o) : GoL sb sL sx g RL cL_law 4 .ireturn 120 cvW pc lv (.int x :: .int x :: st) μ o := by
  have := k_icmp_eq (sb := sb) (sL := sL) (sx := sx) (g := g) (own := RL) (n := 4) (rk := .ireturn) (d := 120) (cv := cvW) (μ := μ) (lv := lv) (st := st) (x := x) (y := x) (o1 := o) (o2 := none) hd ht (fun _ => kt) (fun h => absurd rfl h)
  rwa [if_pos rfl] at this
theorem lg_xx {x : Int64} : lg_cmp x x = 0 := by
  unfold lg_cmp
  simp
theorem k_lcmpT {lv : List (Nat × Value)} {st : List Value} {pc : Nat} {x : Int64} {off : Int} {tgt : Nat} (hd : decode cL_law pc = .ok (.lcmp, 1)) (hd2 : decode cL_law (pc + 1) = .ok (.ifCond .eq off, 3)) (ht : ((pc + 1 : Nat) : Int) + off = (tgt : Int)) (kt : GoL sb sL sx g RL cL_law 4 .ireturn 120 cvW tgt lv st μ o) : GoL sb sL sx g RL cL_law 4 .ireturn 120 cvW pc lv (.long x :: .long x :: st) μ o := by
  refine k_lcmp hd ?_
  rw [lg_xx]
  have := k_if_eq (sb := sb) (sL := sL) (sx := sx) (g := g) (own := RL) (n := 4) (rk := .ireturn) (d := 120) (cv := cvW) (μ := μ) (lv := lv) (st := st) (x := 0) (o1 := o) (o2 := none) hd2 ht (fun _ => kt) (fun h => absurd rfl h)
  rwa [if_pos rfl] at this
theorem law_0 (hF : 2000000 ≤ F) (hR : R μ) (h31 : sL < 2147483648) (hi : i + 6 ≤ sL) : ∃ ξ, R ξ ∧ ∀ o, GL sb sL sx g 1652 i [] ξ o → GL sb sL sx g 260 i [] μ o := by
  obtain ⟨x, ξ, hx, hm, hr⟩ := op_status hR 
  refine ⟨ξ, hr, fun o K => ?_⟩
  refine k_aload_n dL_law_260 2 rfl ?_
  refine k_callV (r2 := x) (cv2 := (cvIp μ)) (b := 0) (ci := 10) (w := 18) [] [] mw_L_13 (by have q := ok_X11_status g μ; rw [hx] at q; exact q) (by decide) rfl (by decide) rfl rfl (by decide) dL_law_261 ?_
  refine k_aload_n dL_law_264 3 rfl ?_
  refine k_callV (r2 := (x, ξ)) (cv2 := cvI) (b := 141) (ci := 11) (w := 49) [] [.int x] mw_L_17 (by have q := ok_X12_status g μ; rw [hm] at q; exact q) (by decide) rfl (by decide) rfl rfl (show 1 ≤ 8 by decide) dL_law_265 ?_
  exact k_icmpT dL_law_268 rfl K
theorem law_1 (hF : 2000000 ≤ F) (hR : R μ) (h31 : sL < 2147483648) (hi : i + 6 ≤ sL) : ∃ ξ, R ξ ∧ ∀ o, GL sb sL sx g 1652 i [] ξ o → GL sb sL sx g 273 i [] μ o := by
  obtain ⟨x, ξ, hx, hm, hr⟩ := op_top hR 
  refine ⟨ξ, hr, fun o K => ?_⟩
  refine k_aload_n dL_law_273 2 rfl ?_
  refine k_callV (r2 := x) (cv2 := (cvJp μ)) (b := 0) (ci := 10) (w := 18) [] [] mw_L_18 (by have q := ok_X11_top g μ; rw [hx] at q; exact q) (by decide) rfl (by decide) rfl rfl (by decide) dL_law_274 ?_
  refine k_aload_n dL_law_277 3 rfl ?_
  refine k_callV (r2 := (x, ξ)) (cv2 := cvJ) (b := 141) (ci := 11) (w := 49) [] [.long x] mw_L_22 (by have q := ok_X12_top g μ; rw [hm] at q; exact q) (by decide) rfl (by decide) rfl rfl (show 2 ≤ 8 by decide) dL_law_278 ?_
  exact k_lcmpT dL_law_281 dL_law_282 rfl K
theorem law_2 (hF : 2000000 ≤ F) (hR : R μ) (h31 : sL < 2147483648) (hi : i + 6 ≤ sL) : ∃ ξ, R ξ ∧ ∀ o, GL sb sL sx g 1652 i [] ξ o → GL sb sL sx g 287 i [] μ o := by
  obtain ⟨x, ξ, hx, hm, hr⟩ := op_bottom hR 
  refine ⟨ξ, hr, fun o K => ?_⟩
  refine k_aload_n dL_law_287 2 rfl ?_
  refine k_callV (r2 := x) (cv2 := (cvJp μ)) (b := 0) (ci := 10) (w := 18) [] [] mw_L_23 (by have q := ok_X11_bottom g μ; rw [hx] at q; exact q) (by decide) rfl (by decide) rfl rfl (by decide) dL_law_288 ?_
  refine k_aload_n dL_law_291 3 rfl ?_
  refine k_callV (r2 := (x, ξ)) (cv2 := cvJ) (b := 141) (ci := 11) (w := 49) [] [.long x] mw_L_26 (by have q := ok_X12_bottom g μ; rw [hm] at q; exact q) (by decide) rfl (by decide) rfl rfl (show 2 ≤ 8 by decide) dL_law_292 ?_
  exact k_lcmpT dL_law_295 dL_law_296 rfl K
theorem law_3 (hF : 2000000 ≤ F) (hR : R μ) (h31 : sL < 2147483648) (hi : i + 6 ≤ sL) : ∃ ξ, R ξ ∧ ∀ o, GL sb sL sx g 1652 i [] ξ o → GL sb sL sx g 301 i [] μ o := by
  obtain ⟨x, ν, ξ, hx, hm, hr⟩ := op_tray hR hF (sx (i + 1)) (sx (i + 2)) (sx (i + 3))
  refine ⟨ξ, hr, fun o K => ?_⟩
  refine k_aload_n dL_law_301 2 rfl ?_
  refine k_aload_n dL_law_302 1 rfl ?_
  refine k_iload_n dL_law_303 0 rfl ?_
  refine k_iconst (v := nI 1) dL_law_304 rfl ?_
  refine k_iadd dL_law_305 ?_
  rw [nI_add]
  refine k_sld h31 (by omega) dL_law_306 ?_
  refine k_aload_n dL_law_307 1 rfl ?_
  refine k_iload_n dL_law_308 0 rfl ?_
  refine k_iconst (v := nI 2) dL_law_309 rfl ?_
  refine k_iadd dL_law_310 ?_
  rw [nI_add]
  refine k_sld h31 (by omega) dL_law_311 ?_
  refine k_aload_n dL_law_312 1 rfl ?_
  refine k_iload_n dL_law_313 0 rfl ?_
  refine k_iconst (v := nI 3) dL_law_314 rfl ?_
  refine k_iadd dL_law_315 ?_
  rw [nI_add]
  refine k_sld h31 (by omega) dL_law_316 ?_
  refine k_callV (r2 := (x, ν)) (cv2 := cvZ) (b := 0) (ci := 10) (w := 18) [.int (sx (i + 1)), .int (sx (i + 2)), .int (sx (i + 3))] [] mw_L_27 (by have q := ok_X11_tray g F (sx (i + 1)) (sx (i + 2)) (sx (i + 3)) μ; rw [hx] at q; exact q) (by decide) rfl (by decide) rfl rfl (by decide) dL_law_317 ?_
  refine k_aload_n dL_law_320 3 rfl ?_
  refine k_aload_n dL_law_321 1 rfl ?_
  refine k_iload_n dL_law_322 0 rfl ?_
  refine k_iconst (v := nI 1) dL_law_323 rfl ?_
  refine k_iadd dL_law_324 ?_
  rw [nI_add]
  refine k_sld h31 (by omega) dL_law_325 ?_
  refine k_aload_n dL_law_326 1 rfl ?_
  refine k_iload_n dL_law_327 0 rfl ?_
  refine k_iconst (v := nI 2) dL_law_328 rfl ?_
  refine k_iadd dL_law_329 ?_
  rw [nI_add]
  refine k_sld h31 (by omega) dL_law_330 ?_
  refine k_aload_n dL_law_331 1 rfl ?_
  refine k_iload_n dL_law_332 0 rfl ?_
  refine k_iconst (v := nI 3) dL_law_333 rfl ?_
  refine k_iadd dL_law_334 ?_
  rw [nI_add]
  refine k_sld h31 (by omega) dL_law_335 ?_
  refine k_callV (r2 := (x, ξ)) (cv2 := cvZ) (b := 141) (ci := 11) (w := 49) [.int (sx (i + 1)), .int (sx (i + 2)), .int (sx (i + 3))] [.int (bI x)] mw_L_31 (by have q := ok_X12_tray g F (sx (i + 1)) (sx (i + 2)) (sx (i + 3)) ν; rw [hm] at q; exact q) (by decide) rfl (by decide) rfl rfl (show 1 ≤ 8 by decide) dL_law_336 ?_
  exact k_icmpT dL_law_339 rfl K
theorem law_4 (hF : 2000000 ≤ F) (hR : R μ) (h31 : sL < 2147483648) (hi : i + 6 ≤ sL) : ∃ ξ, R ξ ∧ ∀ o, GL sb sL sx g 1652 i [] ξ o → GL sb sL sx g 344 i [] μ o := by
  obtain ⟨x, ν, ξ, hx, hm, hr⟩ := op_write hR (sx (i + 1)) (sx (i + 2)) (((sx (i + 3)).toInt64 <<< ((32 : Int32).toInt64 &&& 63)) ||| ((sx (i + 4)).toInt64 &&& (4294967295 : Int64)))
  refine ⟨ξ, hr, fun o K => ?_⟩
  refine k_aload_n dL_law_344 2 rfl ?_
  refine k_aload_n dL_law_345 1 rfl ?_
  refine k_iload_n dL_law_346 0 rfl ?_
  refine k_iconst (v := nI 1) dL_law_347 rfl ?_
  refine k_iadd dL_law_348 ?_
  rw [nI_add]
  refine k_sld h31 (by omega) dL_law_349 ?_
  refine k_aload_n dL_law_350 1 rfl ?_
  refine k_iload_n dL_law_351 0 rfl ?_
  refine k_iconst (v := nI 2) dL_law_352 rfl ?_
  refine k_iadd dL_law_353 ?_
  rw [nI_add]
  refine k_sld h31 (by omega) dL_law_354 ?_
  refine k_aload_n dL_law_355 1 rfl ?_
  refine k_iload_n dL_law_356 0 rfl ?_
  refine k_iconst (v := nI 3) dL_law_357 rfl ?_
  refine k_iadd dL_law_358 ?_
  rw [nI_add]
  refine k_sld h31 (by omega) dL_law_359 ?_
  refine k_i2l dL_law_360 ?_
  refine k_bipush (v := (32 : Int32)) dL_law_361 rfl ?_
  refine k_lshl dL_law_363 ?_
  refine k_aload_n dL_law_364 1 rfl ?_
  refine k_iload_n dL_law_365 0 rfl ?_
  refine k_iconst (v := nI 4) dL_law_366 rfl ?_
  refine k_iadd dL_law_367 ?_
  rw [nI_add]
  refine k_sld h31 (by omega) dL_law_368 ?_
  refine k_i2l dL_law_369 ?_
  refine k_ldc2 kl_L_32 dL_law_370 ?_
  refine k_land dL_law_373 ?_
  refine k_lor dL_law_374 ?_
  refine k_callV (r2 := (x, ν)) (cv2 := cvZ) (b := 0) (ci := 10) (w := 18) [.int (sx (i + 1)), .int (sx (i + 2)), .long (((sx (i + 3)).toInt64 <<< ((32 : Int32).toInt64 &&& 63)) ||| ((sx (i + 4)).toInt64 &&& (4294967295 : Int64)))] [] mw_L_34 (by have q := ok_X11_write g (sx (i + 1)) (sx (i + 2)) (((sx (i + 3)).toInt64 <<< ((32 : Int32).toInt64 &&& 63)) ||| ((sx (i + 4)).toInt64 &&& (4294967295 : Int64))) μ; rw [hx] at q; exact q) (by decide) rfl (by decide) rfl rfl (by decide) dL_law_375 ?_
  refine k_aload_n dL_law_378 3 rfl ?_
  refine k_aload_n dL_law_379 1 rfl ?_
  refine k_iload_n dL_law_380 0 rfl ?_
  refine k_iconst (v := nI 1) dL_law_381 rfl ?_
  refine k_iadd dL_law_382 ?_
  rw [nI_add]
  refine k_sld h31 (by omega) dL_law_383 ?_
  refine k_aload_n dL_law_384 1 rfl ?_
  refine k_iload_n dL_law_385 0 rfl ?_
  refine k_iconst (v := nI 2) dL_law_386 rfl ?_
  refine k_iadd dL_law_387 ?_
  rw [nI_add]
  refine k_sld h31 (by omega) dL_law_388 ?_
  refine k_aload_n dL_law_389 1 rfl ?_
  refine k_iload_n dL_law_390 0 rfl ?_
  refine k_iconst (v := nI 3) dL_law_391 rfl ?_
  refine k_iadd dL_law_392 ?_
  rw [nI_add]
  refine k_sld h31 (by omega) dL_law_393 ?_
  refine k_i2l dL_law_394 ?_
  refine k_bipush (v := (32 : Int32)) dL_law_395 rfl ?_
  refine k_lshl dL_law_397 ?_
  refine k_aload_n dL_law_398 1 rfl ?_
  refine k_iload_n dL_law_399 0 rfl ?_
  refine k_iconst (v := nI 4) dL_law_400 rfl ?_
  refine k_iadd dL_law_401 ?_
  rw [nI_add]
  refine k_sld h31 (by omega) dL_law_402 ?_
  refine k_i2l dL_law_403 ?_
  refine k_ldc2 kl_L_32 dL_law_404 ?_
  refine k_land dL_law_407 ?_
  refine k_lor dL_law_408 ?_
  refine k_callV (r2 := (x, ξ)) (cv2 := cvZ) (b := 141) (ci := 11) (w := 49) [.int (sx (i + 1)), .int (sx (i + 2)), .long (((sx (i + 3)).toInt64 <<< ((32 : Int32).toInt64 &&& 63)) ||| ((sx (i + 4)).toInt64 &&& (4294967295 : Int64)))] [.int (bI x)] mw_L_38 (by have q := ok_X12_write g (sx (i + 1)) (sx (i + 2)) (((sx (i + 3)).toInt64 <<< ((32 : Int32).toInt64 &&& 63)) ||| ((sx (i + 4)).toInt64 &&& (4294967295 : Int64))) ν; rw [hm] at q; exact q) (by decide) rfl (by decide) rfl rfl (show 1 ≤ 8 by decide) dL_law_409 ?_
  exact k_icmpT dL_law_412 rfl K
theorem law_5 (hF : 2000000 ≤ F) (hR : R μ) (h31 : sL < 2147483648) (hi : i + 6 ≤ sL) : ∃ ξ, R ξ ∧ ∀ o, GL sb sL sx g 1652 i [] ξ o → GL sb sL sx g 417 i [] μ o := by
  obtain ⟨x, ν, ξ, hx, hm, hr⟩ := op_read hR (sx (i + 1)) (sx (i + 2))
  refine ⟨ξ, hr, fun o K => ?_⟩
  refine k_aload_n dL_law_417 2 rfl ?_
  refine k_aload_n dL_law_418 1 rfl ?_
  refine k_iload_n dL_law_419 0 rfl ?_
  refine k_iconst (v := nI 1) dL_law_420 rfl ?_
  refine k_iadd dL_law_421 ?_
  rw [nI_add]
  refine k_sld h31 (by omega) dL_law_422 ?_
  refine k_aload_n dL_law_423 1 rfl ?_
  refine k_iload_n dL_law_424 0 rfl ?_
  refine k_iconst (v := nI 2) dL_law_425 rfl ?_
  refine k_iadd dL_law_426 ?_
  rw [nI_add]
  refine k_sld h31 (by omega) dL_law_427 ?_
  refine k_callV (r2 := (x, ν)) (cv2 := cvJ) (b := 0) (ci := 10) (w := 18) [.int (sx (i + 1)), .int (sx (i + 2))] [] mw_L_39 (by have q := ok_X11_read g (sx (i + 1)) (sx (i + 2)) μ; rw [hx] at q; exact q) (by decide) rfl (by decide) rfl rfl (by decide) dL_law_428 ?_
  refine k_aload_n dL_law_431 3 rfl ?_
  refine k_aload_n dL_law_432 1 rfl ?_
  refine k_iload_n dL_law_433 0 rfl ?_
  refine k_iconst (v := nI 1) dL_law_434 rfl ?_
  refine k_iadd dL_law_435 ?_
  rw [nI_add]
  refine k_sld h31 (by omega) dL_law_436 ?_
  refine k_aload_n dL_law_437 1 rfl ?_
  refine k_iload_n dL_law_438 0 rfl ?_
  refine k_iconst (v := nI 2) dL_law_439 rfl ?_
  refine k_iadd dL_law_440 ?_
  rw [nI_add]
  refine k_sld h31 (by omega) dL_law_441 ?_
  refine k_callV (r2 := (x, ξ)) (cv2 := cvJ) (b := 141) (ci := 11) (w := 49) [.int (sx (i + 1)), .int (sx (i + 2))] [.long x] mw_L_43 (by have q := ok_X12_read g (sx (i + 1)) (sx (i + 2)) ν; rw [hm] at q; exact q) (by decide) rfl (by decide) rfl rfl (show 2 ≤ 8 by decide) dL_law_442 ?_
  exact k_lcmpT dL_law_445 dL_law_446 rfl K
theorem law_6 (hF : 2000000 ≤ F) (hR : R μ) (h31 : sL < 2147483648) (hi : i + 6 ≤ sL) : ∃ ξ, R ξ ∧ ∀ o, GL sb sL sx g 1652 i [] ξ o → GL sb sL sx g 451 i [] μ o := by
  obtain ⟨x, ν, ξ, hx, hm, hr⟩ := op_pour hR hF (sx (i + 1)) (sx (i + 2)) (sx (i + 3)) (sx (i + 4)) (sx (i + 5))
  refine ⟨ξ, hr, fun o K => ?_⟩
  refine k_aload_n dL_law_451 2 rfl ?_
  refine k_aload_n dL_law_452 1 rfl ?_
  refine k_iload_n dL_law_453 0 rfl ?_
  refine k_iconst (v := nI 1) dL_law_454 rfl ?_
  refine k_iadd dL_law_455 ?_
  rw [nI_add]
  refine k_sld h31 (by omega) dL_law_456 ?_
  refine k_aload_n dL_law_457 1 rfl ?_
  refine k_iload_n dL_law_458 0 rfl ?_
  refine k_iconst (v := nI 2) dL_law_459 rfl ?_
  refine k_iadd dL_law_460 ?_
  rw [nI_add]
  refine k_sld h31 (by omega) dL_law_461 ?_
  refine k_aload_n dL_law_462 1 rfl ?_
  refine k_iload_n dL_law_463 0 rfl ?_
  refine k_iconst (v := nI 3) dL_law_464 rfl ?_
  refine k_iadd dL_law_465 ?_
  rw [nI_add]
  refine k_sld h31 (by omega) dL_law_466 ?_
  refine k_aload_n dL_law_467 1 rfl ?_
  refine k_iload_n dL_law_468 0 rfl ?_
  refine k_iconst (v := nI 4) dL_law_469 rfl ?_
  refine k_iadd dL_law_470 ?_
  rw [nI_add]
  refine k_sld h31 (by omega) dL_law_471 ?_
  refine k_aload_n dL_law_472 1 rfl ?_
  refine k_iload_n dL_law_473 0 rfl ?_
  refine k_iconst (v := nI 5) dL_law_474 rfl ?_
  refine k_iadd dL_law_475 ?_
  rw [nI_add]
  refine k_sld h31 (by omega) dL_law_476 ?_
  refine k_callV (r2 := (x, ν)) (cv2 := cvZ) (b := 0) (ci := 10) (w := 18) [.int (sx (i + 1)), .int (sx (i + 2)), .int (sx (i + 3)), .int (sx (i + 4)), .int (sx (i + 5))] [] mw_L_44 (by have q := ok_X11_pour g (sx (i + 1)) (sx (i + 2)) (sx (i + 3)) (sx (i + 4)) (sx (i + 5)) μ; rw [hx] at q; exact q) (by decide) rfl (by decide) rfl rfl (by decide) dL_law_477 ?_
  refine k_aload_n dL_law_480 3 rfl ?_
  refine k_aload_n dL_law_481 1 rfl ?_
  refine k_iload_n dL_law_482 0 rfl ?_
  refine k_iconst (v := nI 1) dL_law_483 rfl ?_
  refine k_iadd dL_law_484 ?_
  rw [nI_add]
  refine k_sld h31 (by omega) dL_law_485 ?_
  refine k_aload_n dL_law_486 1 rfl ?_
  refine k_iload_n dL_law_487 0 rfl ?_
  refine k_iconst (v := nI 2) dL_law_488 rfl ?_
  refine k_iadd dL_law_489 ?_
  rw [nI_add]
  refine k_sld h31 (by omega) dL_law_490 ?_
  refine k_aload_n dL_law_491 1 rfl ?_
  refine k_iload_n dL_law_492 0 rfl ?_
  refine k_iconst (v := nI 3) dL_law_493 rfl ?_
  refine k_iadd dL_law_494 ?_
  rw [nI_add]
  refine k_sld h31 (by omega) dL_law_495 ?_
  refine k_aload_n dL_law_496 1 rfl ?_
  refine k_iload_n dL_law_497 0 rfl ?_
  refine k_iconst (v := nI 4) dL_law_498 rfl ?_
  refine k_iadd dL_law_499 ?_
  rw [nI_add]
  refine k_sld h31 (by omega) dL_law_500 ?_
  refine k_aload_n dL_law_501 1 rfl ?_
  refine k_iload_n dL_law_502 0 rfl ?_
  refine k_iconst (v := nI 5) dL_law_503 rfl ?_
  refine k_iadd dL_law_504 ?_
  rw [nI_add]
  refine k_sld h31 (by omega) dL_law_505 ?_
  refine k_callV (r2 := (x, ξ)) (cv2 := cvZ) (b := 141) (ci := 11) (w := 49) [.int (sx (i + 1)), .int (sx (i + 2)), .int (sx (i + 3)), .int (sx (i + 4)), .int (sx (i + 5))] [.int (bI x)] mw_L_48 (by have q := ok_X12_pour g F (sx (i + 1)) (sx (i + 2)) (sx (i + 3)) (sx (i + 4)) (sx (i + 5)) ν; rw [hm] at q; exact q) (by decide) rfl (by decide) rfl rfl (show 1 ≤ 8 by decide) dL_law_506 ?_
  exact k_icmpT dL_law_509 rfl K
theorem law_7 (hF : 2000000 ≤ F) (hR : R μ) (h31 : sL < 2147483648) (hi : i + 6 ≤ sL) : ∃ ξ, R ξ ∧ ∀ o, GL sb sL sx g 1652 i [] ξ o → GL sb sL sx g 514 i [] μ o := by
  obtain ⟨x, ν, ξ, hx, hm, hr⟩ := op_feed hR hF (sx (i + 1)) (sx (i + 2)) (sx (i + 3)) (sx (i + 4)) (sx (i + 5))
  refine ⟨ξ, hr, fun o K => ?_⟩
  refine k_aload_n dL_law_514 2 rfl ?_
  refine k_aload_n dL_law_515 1 rfl ?_
  refine k_iload_n dL_law_516 0 rfl ?_
  refine k_iconst (v := nI 1) dL_law_517 rfl ?_
  refine k_iadd dL_law_518 ?_
  rw [nI_add]
  refine k_sld h31 (by omega) dL_law_519 ?_
  refine k_aload_n dL_law_520 1 rfl ?_
  refine k_iload_n dL_law_521 0 rfl ?_
  refine k_iconst (v := nI 2) dL_law_522 rfl ?_
  refine k_iadd dL_law_523 ?_
  rw [nI_add]
  refine k_sld h31 (by omega) dL_law_524 ?_
  refine k_aload_n dL_law_525 1 rfl ?_
  refine k_iload_n dL_law_526 0 rfl ?_
  refine k_iconst (v := nI 3) dL_law_527 rfl ?_
  refine k_iadd dL_law_528 ?_
  rw [nI_add]
  refine k_sld h31 (by omega) dL_law_529 ?_
  refine k_aload_n dL_law_530 1 rfl ?_
  refine k_iload_n dL_law_531 0 rfl ?_
  refine k_iconst (v := nI 4) dL_law_532 rfl ?_
  refine k_iadd dL_law_533 ?_
  rw [nI_add]
  refine k_sld h31 (by omega) dL_law_534 ?_
  refine k_aload_n dL_law_535 1 rfl ?_
  refine k_iload_n dL_law_536 0 rfl ?_
  refine k_iconst (v := nI 5) dL_law_537 rfl ?_
  refine k_iadd dL_law_538 ?_
  rw [nI_add]
  refine k_sld h31 (by omega) dL_law_539 ?_
  refine k_callV (r2 := (x, ν)) (cv2 := cvI) (b := 0) (ci := 10) (w := 18) [.int (sx (i + 1)), .int (sx (i + 2)), .int (sx (i + 3)), .int (sx (i + 4)), .int (sx (i + 5))] [] mw_L_49 (by have q := ok_X11_feed g F (sx (i + 1)) (sx (i + 2)) (sx (i + 3)) (sx (i + 4)) (sx (i + 5)) μ; rw [hx] at q; exact q) (by decide) rfl (by decide) rfl rfl (by decide) dL_law_540 ?_
  refine k_aload_n dL_law_543 3 rfl ?_
  refine k_aload_n dL_law_544 1 rfl ?_
  refine k_iload_n dL_law_545 0 rfl ?_
  refine k_iconst (v := nI 1) dL_law_546 rfl ?_
  refine k_iadd dL_law_547 ?_
  rw [nI_add]
  refine k_sld h31 (by omega) dL_law_548 ?_
  refine k_aload_n dL_law_549 1 rfl ?_
  refine k_iload_n dL_law_550 0 rfl ?_
  refine k_iconst (v := nI 2) dL_law_551 rfl ?_
  refine k_iadd dL_law_552 ?_
  rw [nI_add]
  refine k_sld h31 (by omega) dL_law_553 ?_
  refine k_aload_n dL_law_554 1 rfl ?_
  refine k_iload_n dL_law_555 0 rfl ?_
  refine k_iconst (v := nI 3) dL_law_556 rfl ?_
  refine k_iadd dL_law_557 ?_
  rw [nI_add]
  refine k_sld h31 (by omega) dL_law_558 ?_
  refine k_aload_n dL_law_559 1 rfl ?_
  refine k_iload_n dL_law_560 0 rfl ?_
  refine k_iconst (v := nI 4) dL_law_561 rfl ?_
  refine k_iadd dL_law_562 ?_
  rw [nI_add]
  refine k_sld h31 (by omega) dL_law_563 ?_
  refine k_aload_n dL_law_564 1 rfl ?_
  refine k_iload_n dL_law_565 0 rfl ?_
  refine k_iconst (v := nI 5) dL_law_566 rfl ?_
  refine k_iadd dL_law_567 ?_
  rw [nI_add]
  refine k_sld h31 (by omega) dL_law_568 ?_
  refine k_callV (r2 := (x, ξ)) (cv2 := cvI) (b := 141) (ci := 11) (w := 49) [.int (sx (i + 1)), .int (sx (i + 2)), .int (sx (i + 3)), .int (sx (i + 4)), .int (sx (i + 5))] [.int x] mw_L_53 (by have q := ok_X12_feed g F (sx (i + 1)) (sx (i + 2)) (sx (i + 3)) (sx (i + 4)) (sx (i + 5)) ν; rw [hm] at q; exact q) (by decide) rfl (by decide) rfl rfl (show 1 ≤ 8 by decide) dL_law_569 ?_
  exact k_icmpT dL_law_572 rfl K
theorem law_8 (hF : 2000000 ≤ F) (hR : R μ) (h31 : sL < 2147483648) (hi : i + 6 ≤ sL) : ∃ ξ, R ξ ∧ ∀ o, GL sb sL sx g 1652 i [] ξ o → GL sb sL sx g 577 i [] μ o := by
  obtain ⟨x, ν, ξ, hx, hm, hr⟩ := op_book hR hF (sx (i + 1))
  refine ⟨ξ, hr, fun o K => ?_⟩
  refine k_aload_n dL_law_577 2 rfl ?_
  refine k_aload_n dL_law_578 1 rfl ?_
  refine k_iload_n dL_law_579 0 rfl ?_
  refine k_iconst (v := nI 1) dL_law_580 rfl ?_
  refine k_iadd dL_law_581 ?_
  rw [nI_add]
  refine k_sld h31 (by omega) dL_law_582 ?_
  refine k_callV (r2 := (x, ν)) (cv2 := cvI) (b := 0) (ci := 10) (w := 18) [.int (sx (i + 1))] [] mw_L_54 (by have q := ok_X11_book g F (sx (i + 1)) μ; rw [hx] at q; exact q) (by decide) rfl (by decide) rfl rfl (by decide) dL_law_583 ?_
  refine k_aload_n dL_law_586 3 rfl ?_
  refine k_aload_n dL_law_587 1 rfl ?_
  refine k_iload_n dL_law_588 0 rfl ?_
  refine k_iconst (v := nI 1) dL_law_589 rfl ?_
  refine k_iadd dL_law_590 ?_
  rw [nI_add]
  refine k_sld h31 (by omega) dL_law_591 ?_
  refine k_callV (r2 := (x, ξ)) (cv2 := cvI) (b := 141) (ci := 11) (w := 49) [.int (sx (i + 1))] [.int x] mw_L_58 (by have q := ok_X12_book g F (sx (i + 1)) ν; rw [hm] at q; exact q) (by decide) rfl (by decide) rfl rfl (show 1 ≤ 8 by decide) dL_law_592 ?_
  exact k_icmpT dL_law_595 rfl K
theorem law_9 (hF : 2000000 ≤ F) (hR : R μ) (h31 : sL < 2147483648) (hi : i + 6 ≤ sL) : ∃ ξ, R ξ ∧ ∀ o, GL sb sL sx g 1652 i [] ξ o → GL sb sL sx g 600 i [] μ o := by
  obtain ⟨x, ν, ξ, hx, hm, hr⟩ := op_nights hR hF (sx (i + 1))
  refine ⟨ξ, hr, fun o K => ?_⟩
  refine k_aload_n dL_law_600 2 rfl ?_
  refine k_aload_n dL_law_601 1 rfl ?_
  refine k_iload_n dL_law_602 0 rfl ?_
  refine k_iconst (v := nI 1) dL_law_603 rfl ?_
  refine k_iadd dL_law_604 ?_
  rw [nI_add]
  refine k_sld h31 (by omega) dL_law_605 ?_
  refine k_callV (r2 := (x, ν)) (cv2 := cvI) (b := 0) (ci := 10) (w := 18) [.int (sx (i + 1))] [] mw_L_59 (by have q := ok_X11_nights g F (sx (i + 1)) μ; rw [hx] at q; exact q) (by decide) rfl (by decide) rfl rfl (by decide) dL_law_606 ?_
  refine k_aload_n dL_law_609 3 rfl ?_
  refine k_aload_n dL_law_610 1 rfl ?_
  refine k_iload_n dL_law_611 0 rfl ?_
  refine k_iconst (v := nI 1) dL_law_612 rfl ?_
  refine k_iadd dL_law_613 ?_
  rw [nI_add]
  refine k_sld h31 (by omega) dL_law_614 ?_
  refine k_callV (r2 := (x, ξ)) (cv2 := cvI) (b := 141) (ci := 11) (w := 49) [.int (sx (i + 1))] [.int x] mw_L_62 (by have q := ok_X12_nights g F (sx (i + 1)) ν; rw [hm] at q; exact q) (by decide) rfl (by decide) rfl rfl (show 1 ≤ 8 by decide) dL_law_615 ?_
  exact k_icmpT dL_law_618 rfl K
theorem law_10 (hF : 2000000 ≤ F) (hR : R μ) (h31 : sL < 2147483648) (hi : i + 6 ≤ sL) : ∃ ξ, R ξ ∧ ∀ o, GL sb sL sx g 1652 i [] ξ o → GL sb sL sx g 623 i [] μ o := by
  obtain ⟨x, ξ, hx, hm, hr⟩ := op_fault hR (sx (i + 1))
  refine ⟨ξ, hr, fun o K => ?_⟩
  refine k_aload_n dL_law_623 2 rfl ?_
  refine k_aload_n dL_law_624 1 rfl ?_
  refine k_iload_n dL_law_625 0 rfl ?_
  refine k_iconst (v := nI 1) dL_law_626 rfl ?_
  refine k_iadd dL_law_627 ?_
  rw [nI_add]
  refine k_sld h31 (by omega) dL_law_628 ?_
  refine k_callV (r2 := x) (cv2 := (cvIp μ)) (b := 0) (ci := 10) (w := 18) [.int (sx (i + 1))] [] mw_L_63 (by have q := ok_X11_fault g (sx (i + 1)) μ; rw [hx] at q; exact q) (by decide) rfl (by decide) rfl rfl (by decide) dL_law_629 ?_
  refine k_aload_n dL_law_632 3 rfl ?_
  refine k_aload_n dL_law_633 1 rfl ?_
  refine k_iload_n dL_law_634 0 rfl ?_
  refine k_iconst (v := nI 1) dL_law_635 rfl ?_
  refine k_iadd dL_law_636 ?_
  rw [nI_add]
  refine k_sld h31 (by omega) dL_law_637 ?_
  refine k_callV (r2 := (x, ξ)) (cv2 := cvI) (b := 141) (ci := 11) (w := 49) [.int (sx (i + 1))] [.int x] mw_L_66 (by have q := ok_X12_fault g (sx (i + 1)) μ; rw [hm] at q; exact q) (by decide) rfl (by decide) rfl rfl (show 1 ≤ 8 by decide) dL_law_638 ?_
  exact k_icmpT dL_law_641 rfl K
theorem law_11 (hF : 2000000 ≤ F) (hR : R μ) (h31 : sL < 2147483648) (hi : i + 6 ≤ sL) : ∃ ξ, R ξ ∧ ∀ o, GL sb sL sx g 1652 i [] ξ o → GL sb sL sx g 646 i [] μ o := by
  obtain ⟨x, ν, ξ, hx, hm, hr⟩ := op_many hR hF (sx (i + 1))
  refine ⟨ξ, hr, fun o K => ?_⟩
  refine k_aload_n dL_law_646 2 rfl ?_
  refine k_aload_n dL_law_647 1 rfl ?_
  refine k_iload_n dL_law_648 0 rfl ?_
  refine k_iconst (v := nI 1) dL_law_649 rfl ?_
  refine k_iadd dL_law_650 ?_
  rw [nI_add]
  refine k_sld h31 (by omega) dL_law_651 ?_
  refine k_callV (r2 := (x, ν)) (cv2 := cvI) (b := 0) (ci := 10) (w := 18) [.int (sx (i + 1))] [] mw_L_67 (by have q := ok_X11_many g F (sx (i + 1)) μ; rw [hx] at q; exact q) (by decide) rfl (by decide) rfl rfl (by decide) dL_law_652 ?_
  refine k_aload_n dL_law_655 3 rfl ?_
  refine k_aload_n dL_law_656 1 rfl ?_
  refine k_iload_n dL_law_657 0 rfl ?_
  refine k_iconst (v := nI 1) dL_law_658 rfl ?_
  refine k_iadd dL_law_659 ?_
  rw [nI_add]
  refine k_sld h31 (by omega) dL_law_660 ?_
  refine k_callV (r2 := (x, ξ)) (cv2 := cvI) (b := 141) (ci := 11) (w := 49) [.int (sx (i + 1))] [.int x] mw_L_70 (by have q := ok_X12_many g F (sx (i + 1)) ν; rw [hm] at q; exact q) (by decide) rfl (by decide) rfl rfl (show 1 ≤ 8 by decide) dL_law_661 ?_
  exact k_icmpT dL_law_664 rfl K
theorem law_12 (hF : 2000000 ≤ F) (hR : R μ) (h31 : sL < 2147483648) (hi : i + 6 ≤ sL) : ∃ ξ, R ξ ∧ ∀ o, GL sb sL sx g 1652 i [] ξ o → GL sb sL sx g 669 i [] μ o := by
  obtain ⟨x, ν, ξ, hx, hm, hr⟩ := op_cell hR hF (sx (i + 1)) (sx (i + 2))
  refine ⟨ξ, hr, fun o K => ?_⟩
  refine k_aload_n dL_law_669 2 rfl ?_
  refine k_aload_n dL_law_670 1 rfl ?_
  refine k_iload_n dL_law_671 0 rfl ?_
  refine k_iconst (v := nI 1) dL_law_672 rfl ?_
  refine k_iadd dL_law_673 ?_
  rw [nI_add]
  refine k_sld h31 (by omega) dL_law_674 ?_
  refine k_aload_n dL_law_675 1 rfl ?_
  refine k_iload_n dL_law_676 0 rfl ?_
  refine k_iconst (v := nI 2) dL_law_677 rfl ?_
  refine k_iadd dL_law_678 ?_
  rw [nI_add]
  refine k_sld h31 (by omega) dL_law_679 ?_
  refine k_callV (r2 := (x, ν)) (cv2 := cvI) (b := 0) (ci := 10) (w := 18) [.int (sx (i + 1)), .int (sx (i + 2))] [] mw_L_71 (by have q := ok_X11_cell g (sx (i + 1)) (sx (i + 2)) μ; rw [hx] at q; exact q) (by decide) rfl (by decide) rfl rfl (by decide) dL_law_680 ?_
  refine k_aload_n dL_law_683 3 rfl ?_
  refine k_aload_n dL_law_684 1 rfl ?_
  refine k_iload_n dL_law_685 0 rfl ?_
  refine k_iconst (v := nI 1) dL_law_686 rfl ?_
  refine k_iadd dL_law_687 ?_
  rw [nI_add]
  refine k_sld h31 (by omega) dL_law_688 ?_
  refine k_aload_n dL_law_689 1 rfl ?_
  refine k_iload_n dL_law_690 0 rfl ?_
  refine k_iconst (v := nI 2) dL_law_691 rfl ?_
  refine k_iadd dL_law_692 ?_
  rw [nI_add]
  refine k_sld h31 (by omega) dL_law_693 ?_
  refine k_callV (r2 := (x, ξ)) (cv2 := cvI) (b := 141) (ci := 11) (w := 49) [.int (sx (i + 1)), .int (sx (i + 2))] [.int x] mw_L_75 (by have q := ok_X12_cell g (sx (i + 1)) (sx (i + 2)) ν; rw [hm] at q; exact q) (by decide) rfl (by decide) rfl rfl (show 1 ≤ 8 by decide) dL_law_694 ?_
  exact k_icmpT dL_law_697 rfl K
theorem law_13 (hF : 2000000 ≤ F) (hR : R μ) (h31 : sL < 2147483648) (hi : i + 6 ≤ sL) : ∃ ξ, R ξ ∧ ∀ o, GL sb sL sx g 1652 i [] ξ o → GL sb sL sx g 702 i [] μ o := by
  obtain ⟨x, ν, ξ, hx, hm, hr⟩ := op_watch hR hF 
  refine ⟨ξ, hr, fun o K => ?_⟩
  refine k_aload_n dL_law_702 2 rfl ?_
  refine k_callV (r2 := (x, ν)) (cv2 := cvI) (b := 0) (ci := 10) (w := 18) [] [] mw_L_76 (by have q := ok_X11_watch g μ; rw [hx] at q; exact q) (by decide) rfl (by decide) rfl rfl (by decide) dL_law_703 ?_
  refine k_aload_n dL_law_706 3 rfl ?_
  refine k_callV (r2 := (x, ξ)) (cv2 := cvI) (b := 141) (ci := 11) (w := 49) [] [.int x] mw_L_79 (by have q := ok_X12_watch g ν; rw [hm] at q; exact q) (by decide) rfl (by decide) rfl rfl (show 1 ≤ 8 by decide) dL_law_707 ?_
  exact k_icmpT dL_law_710 rfl K
theorem law_14 (hF : 2000000 ≤ F) (hR : R μ) (h31 : sL < 2147483648) (hi : i + 6 ≤ sL) : ∃ ξ, R ξ ∧ ∀ o, GL sb sL sx g 1652 i [] ξ o → GL sb sL sx g 715 i [] μ o := by
  obtain ⟨x, ν, ξ, hx, hm, hr⟩ := op_account hR hF (sx (i + 1)) (sx (i + 2))
  refine ⟨ξ, hr, fun o K => ?_⟩
  refine k_aload_n dL_law_715 2 rfl ?_
  refine k_aload_n dL_law_716 1 rfl ?_
  refine k_iload_n dL_law_717 0 rfl ?_
  refine k_iconst (v := nI 1) dL_law_718 rfl ?_
  refine k_iadd dL_law_719 ?_
  rw [nI_add]
  refine k_sld h31 (by omega) dL_law_720 ?_
  refine k_aload_n dL_law_721 1 rfl ?_
  refine k_iload_n dL_law_722 0 rfl ?_
  refine k_iconst (v := nI 2) dL_law_723 rfl ?_
  refine k_iadd dL_law_724 ?_
  rw [nI_add]
  refine k_sld h31 (by omega) dL_law_725 ?_
  refine k_callV (r2 := (x, ν)) (cv2 := cvI) (b := 0) (ci := 10) (w := 18) [.int (sx (i + 1)), .int (sx (i + 2))] [] mw_L_80 (by have q := ok_X11_account g F (sx (i + 1)) (sx (i + 2)) μ; rw [hx] at q; exact q) (by decide) rfl (by decide) rfl rfl (by decide) dL_law_726 ?_
  refine k_aload_n dL_law_729 3 rfl ?_
  refine k_aload_n dL_law_730 1 rfl ?_
  refine k_iload_n dL_law_731 0 rfl ?_
  refine k_iconst (v := nI 1) dL_law_732 rfl ?_
  refine k_iadd dL_law_733 ?_
  rw [nI_add]
  refine k_sld h31 (by omega) dL_law_734 ?_
  refine k_aload_n dL_law_735 1 rfl ?_
  refine k_iload_n dL_law_736 0 rfl ?_
  refine k_iconst (v := nI 2) dL_law_737 rfl ?_
  refine k_iadd dL_law_738 ?_
  rw [nI_add]
  refine k_sld h31 (by omega) dL_law_739 ?_
  refine k_callV (r2 := (x, ξ)) (cv2 := cvI) (b := 141) (ci := 11) (w := 49) [.int (sx (i + 1)), .int (sx (i + 2))] [.int x] mw_L_83 (by have q := ok_X12_account g F (sx (i + 1)) (sx (i + 2)) ν; rw [hm] at q; exact q) (by decide) rfl (by decide) rfl rfl (show 1 ≤ 8 by decide) dL_law_740 ?_
  exact k_icmpT dL_law_743 rfl K
theorem law_15 (hF : 2000000 ≤ F) (hR : R μ) (h31 : sL < 2147483648) (hi : i + 6 ≤ sL) : ∃ ξ, R ξ ∧ ∀ o, GL sb sL sx g 1652 i [] ξ o → GL sb sL sx g 748 i [] μ o := by
  obtain ⟨x, ν, ξ, hx, hm, hr⟩ := op_law hR hF (sx (i + 1)) (sx (i + 2))
  refine ⟨ξ, hr, fun o K => ?_⟩
  refine k_aload_n dL_law_748 2 rfl ?_
  refine k_aload_n dL_law_749 1 rfl ?_
  refine k_iload_n dL_law_750 0 rfl ?_
  refine k_iconst (v := nI 1) dL_law_751 rfl ?_
  refine k_iadd dL_law_752 ?_
  rw [nI_add]
  refine k_sld h31 (by omega) dL_law_753 ?_
  refine k_aload_n dL_law_754 1 rfl ?_
  refine k_iload_n dL_law_755 0 rfl ?_
  refine k_iconst (v := nI 2) dL_law_756 rfl ?_
  refine k_iadd dL_law_757 ?_
  rw [nI_add]
  refine k_sld h31 (by omega) dL_law_758 ?_
  refine k_callV (r2 := (x, ν)) (cv2 := cvI) (b := 0) (ci := 10) (w := 18) [.int (sx (i + 1)), .int (sx (i + 2))] [] mw_L_84 (by have q := ok_X11_law g (sx (i + 1)) (sx (i + 2)) μ; rw [hx] at q; exact q) (by decide) rfl (by decide) rfl rfl (by decide) dL_law_759 ?_
  refine k_aload_n dL_law_762 3 rfl ?_
  refine k_aload_n dL_law_763 1 rfl ?_
  refine k_iload_n dL_law_764 0 rfl ?_
  refine k_iconst (v := nI 1) dL_law_765 rfl ?_
  refine k_iadd dL_law_766 ?_
  rw [nI_add]
  refine k_sld h31 (by omega) dL_law_767 ?_
  refine k_aload_n dL_law_768 1 rfl ?_
  refine k_iload_n dL_law_769 0 rfl ?_
  refine k_iconst (v := nI 2) dL_law_770 rfl ?_
  refine k_iadd dL_law_771 ?_
  rw [nI_add]
  refine k_sld h31 (by omega) dL_law_772 ?_
  refine k_callV (r2 := (x, ξ)) (cv2 := cvI) (b := 141) (ci := 11) (w := 49) [.int (sx (i + 1)), .int (sx (i + 2))] [.int x] mw_L_87 (by have q := ok_X12_law g (sx (i + 1)) (sx (i + 2)) ν; rw [hm] at q; exact q) (by decide) rfl (by decide) rfl rfl (show 1 ≤ 8 by decide) dL_law_773 ?_
  exact k_icmpT dL_law_776 rfl K
theorem law_16 (hF : 2000000 ≤ F) (hR : R μ) (h31 : sL < 2147483648) (hi : i + 6 ≤ sL) : ∃ ξ, R ξ ∧ ∀ o, GL sb sL sx g 1652 i [] ξ o → GL sb sL sx g 781 i [] μ o := by
  obtain ⟨x, ν, ξ, hx, hm, hr⟩ := op_balance hR hF 
  refine ⟨ξ, hr, fun o K => ?_⟩
  refine k_aload_n dL_law_781 2 rfl ?_
  refine k_callV (r2 := (x, ν)) (cv2 := cvI) (b := 0) (ci := 10) (w := 18) [] [] mw_L_88 (by have q := ok_X11_balance g F μ; rw [hx] at q; exact q) (by decide) rfl (by decide) rfl rfl (by decide) dL_law_782 ?_
  refine k_aload_n dL_law_785 3 rfl ?_
  refine k_callV (r2 := (x, ξ)) (cv2 := cvI) (b := 141) (ci := 11) (w := 49) [] [.int x] mw_L_91 (by have q := ok_X12_balance g F ν; rw [hm] at q; exact q) (by decide) rfl (by decide) rfl rfl (show 1 ≤ 8 by decide) dL_law_786 ?_
  exact k_icmpT dL_law_789 rfl K
theorem law_17 (hF : 2000000 ≤ F) (hR : R μ) (h31 : sL < 2147483648) (hi : i + 6 ≤ sL) : ∃ ξ, R ξ ∧ ∀ o, GL sb sL sx g 1652 i [] ξ o → GL sb sL sx g 794 i [] μ o := by
  obtain ⟨x, ν, ξ, hx, hm, hr⟩ := op_copyDigits hR hF (sx (i + 1))
  refine ⟨ξ, hr, fun o K => ?_⟩
  refine k_aload_n dL_law_794 2 rfl ?_
  refine k_aload_n dL_law_795 1 rfl ?_
  refine k_iload_n dL_law_796 0 rfl ?_
  refine k_iconst (v := nI 1) dL_law_797 rfl ?_
  refine k_iadd dL_law_798 ?_
  rw [nI_add]
  refine k_sld h31 (by omega) dL_law_799 ?_
  refine k_callV (r2 := (x, ν)) (cv2 := cvI) (b := 0) (ci := 10) (w := 18) [.int (sx (i + 1))] [] mw_L_92 (by have q := ok_X11_copyDigits g F (sx (i + 1)) μ; rw [hx] at q; exact q) (by decide) rfl (by decide) rfl rfl (by decide) dL_law_800 ?_
  refine k_aload_n dL_law_803 3 rfl ?_
  refine k_aload_n dL_law_804 1 rfl ?_
  refine k_iload_n dL_law_805 0 rfl ?_
  refine k_iconst (v := nI 1) dL_law_806 rfl ?_
  refine k_iadd dL_law_807 ?_
  rw [nI_add]
  refine k_sld h31 (by omega) dL_law_808 ?_
  refine k_callV (r2 := (x, ξ)) (cv2 := cvI) (b := 141) (ci := 11) (w := 49) [.int (sx (i + 1))] [.int x] mw_L_95 (by have q := ok_X12_copyDigits g F (sx (i + 1)) ν; rw [hm] at q; exact q) (by decide) rfl (by decide) rfl rfl (show 1 ≤ 8 by decide) dL_law_809 ?_
  exact k_icmpT dL_law_812 rfl K
theorem law_18 (hF : 2000000 ≤ F) (hR : R μ) (h31 : sL < 2147483648) (hi : i + 6 ≤ sL) : ∃ ξ, R ξ ∧ ∀ o, GL sb sL sx g 1652 i [] ξ o → GL sb sL sx g 817 i [] μ o := by
  obtain ⟨x, ν, ξ, hx, hm, hr⟩ := op_step hR hF (sx (i + 1))
  refine ⟨ξ, hr, fun o K => ?_⟩
  refine k_aload_n dL_law_817 2 rfl ?_
  refine k_aload_n dL_law_818 1 rfl ?_
  refine k_iload_n dL_law_819 0 rfl ?_
  refine k_iconst (v := nI 1) dL_law_820 rfl ?_
  refine k_iadd dL_law_821 ?_
  rw [nI_add]
  refine k_sld h31 (by omega) dL_law_822 ?_
  refine k_callV (r2 := (x, ν)) (cv2 := cvI) (b := 0) (ci := 10) (w := 18) [.int (sx (i + 1))] [] mw_L_96 (by have q := ok_X11_step g F (sx (i + 1)) μ; rw [hx] at q; exact q) (by decide) rfl (by decide) rfl rfl (by decide) dL_law_823 ?_
  refine k_aload_n dL_law_826 3 rfl ?_
  refine k_aload_n dL_law_827 1 rfl ?_
  refine k_iload_n dL_law_828 0 rfl ?_
  refine k_iconst (v := nI 1) dL_law_829 rfl ?_
  refine k_iadd dL_law_830 ?_
  rw [nI_add]
  refine k_sld h31 (by omega) dL_law_831 ?_
  refine k_callV (r2 := (x, ξ)) (cv2 := cvI) (b := 141) (ci := 11) (w := 49) [.int (sx (i + 1))] [.int x] mw_L_99 (by have q := ok_X12_step g F (sx (i + 1)) ν; rw [hm] at q; exact q) (by decide) rfl (by decide) rfl rfl (show 1 ≤ 8 by decide) dL_law_832 ?_
  exact k_icmpT dL_law_835 rfl K
theorem law_19 (hF : 2000000 ≤ F) (hR : R μ) (h31 : sL < 2147483648) (hi : i + 6 ≤ sL) : ∃ ξ, R ξ ∧ ∀ o, GL sb sL sx g 1652 i [] ξ o → GL sb sL sx g 840 i [] μ o := by
  obtain ⟨x, ν, ξ, hx, hm, hr⟩ := op_doze hR hF (sx (i + 1))
  refine ⟨ξ, hr, fun o K => ?_⟩
  refine k_aload_n dL_law_840 2 rfl ?_
  refine k_aload_n dL_law_841 1 rfl ?_
  refine k_iload_n dL_law_842 0 rfl ?_
  refine k_iconst (v := nI 1) dL_law_843 rfl ?_
  refine k_iadd dL_law_844 ?_
  rw [nI_add]
  refine k_sld h31 (by omega) dL_law_845 ?_
  refine k_callV (r2 := (x, ν)) (cv2 := cvI) (b := 0) (ci := 10) (w := 18) [.int (sx (i + 1))] [] mw_L_100 (by have q := ok_X11_doze g F (sx (i + 1)) μ; rw [hx] at q; exact q) (by decide) rfl (by decide) rfl rfl (by decide) dL_law_846 ?_
  refine k_aload_n dL_law_849 3 rfl ?_
  refine k_aload_n dL_law_850 1 rfl ?_
  refine k_iload_n dL_law_851 0 rfl ?_
  refine k_iconst (v := nI 1) dL_law_852 rfl ?_
  refine k_iadd dL_law_853 ?_
  rw [nI_add]
  refine k_sld h31 (by omega) dL_law_854 ?_
  refine k_callV (r2 := (x, ξ)) (cv2 := cvI) (b := 141) (ci := 11) (w := 49) [.int (sx (i + 1))] [.int x] mw_L_103 (by have q := ok_X12_doze g F (sx (i + 1)) ν; rw [hm] at q; exact q) (by decide) rfl (by decide) rfl rfl (show 1 ≤ 8 by decide) dL_law_855 ?_
  exact k_icmpT dL_law_858 rfl K
theorem law_20 (hF : 2000000 ≤ F) (hR : R μ) (h31 : sL < 2147483648) (hi : i + 6 ≤ sL) : ∃ ξ, R ξ ∧ ∀ o, GL sb sL sx g 1652 i [] ξ o → GL sb sL sx g 863 i [] μ o := by
  obtain ⟨x, ν, ξ, hx, hm, hr⟩ := op_mend hR hF (sx (i + 1))
  refine ⟨ξ, hr, fun o K => ?_⟩
  refine k_aload_n dL_law_863 2 rfl ?_
  refine k_aload_n dL_law_864 1 rfl ?_
  refine k_iload_n dL_law_865 0 rfl ?_
  refine k_iconst (v := nI 1) dL_law_866 rfl ?_
  refine k_iadd dL_law_867 ?_
  rw [nI_add]
  refine k_sld h31 (by omega) dL_law_868 ?_
  refine k_callV (r2 := (x, ν)) (cv2 := cvI) (b := 0) (ci := 10) (w := 18) [.int (sx (i + 1))] [] mw_L_104 (by have q := ok_X11_mend g (sx (i + 1)) μ; rw [hx] at q; exact q) (by decide) rfl (by decide) rfl rfl (by decide) dL_law_869 ?_
  refine k_aload_n dL_law_872 3 rfl ?_
  refine k_aload_n dL_law_873 1 rfl ?_
  refine k_iload_n dL_law_874 0 rfl ?_
  refine k_iconst (v := nI 1) dL_law_875 rfl ?_
  refine k_iadd dL_law_876 ?_
  rw [nI_add]
  refine k_sld h31 (by omega) dL_law_877 ?_
  refine k_callV (r2 := (x, ξ)) (cv2 := cvI) (b := 141) (ci := 11) (w := 49) [.int (sx (i + 1))] [.int x] mw_L_107 (by have q := ok_X12_mend g (sx (i + 1)) ν; rw [hm] at q; exact q) (by decide) rfl (by decide) rfl rfl (show 1 ≤ 8 by decide) dL_law_878 ?_
  exact k_icmpT dL_law_881 rfl K
theorem law_21 (hF : 2000000 ≤ F) (hR : R μ) (h31 : sL < 2147483648) (hi : i + 6 ≤ sL) : ∃ ξ, R ξ ∧ ∀ o, GL sb sL sx g 1652 i [] ξ o → GL sb sL sx g 886 i [] μ o := by
  obtain ⟨x, ν, ξ, hx, hm, hr⟩ := op_steal hR hF (sx (i + 1))
  refine ⟨ξ, hr, fun o K => ?_⟩
  refine k_aload_n dL_law_886 2 rfl ?_
  refine k_aload_n dL_law_887 1 rfl ?_
  refine k_iload_n dL_law_888 0 rfl ?_
  refine k_iconst (v := nI 1) dL_law_889 rfl ?_
  refine k_iadd dL_law_890 ?_
  rw [nI_add]
  refine k_sld h31 (by omega) dL_law_891 ?_
  refine k_callV (r2 := (x, ν)) (cv2 := cvI) (b := 0) (ci := 10) (w := 18) [.int (sx (i + 1))] [] mw_L_108 (by have q := ok_X11_steal g (sx (i + 1)) μ; rw [hx] at q; exact q) (by decide) rfl (by decide) rfl rfl (by decide) dL_law_892 ?_
  refine k_aload_n dL_law_895 3 rfl ?_
  refine k_aload_n dL_law_896 1 rfl ?_
  refine k_iload_n dL_law_897 0 rfl ?_
  refine k_iconst (v := nI 1) dL_law_898 rfl ?_
  refine k_iadd dL_law_899 ?_
  rw [nI_add]
  refine k_sld h31 (by omega) dL_law_900 ?_
  refine k_callV (r2 := (x, ξ)) (cv2 := cvI) (b := 141) (ci := 11) (w := 49) [.int (sx (i + 1))] [.int x] mw_L_111 (by have q := ok_X12_steal g (sx (i + 1)) ν; rw [hm] at q; exact q) (by decide) rfl (by decide) rfl rfl (show 1 ≤ 8 by decide) dL_law_901 ?_
  exact k_icmpT dL_law_904 rfl K
theorem law_22 (hF : 2000000 ≤ F) (hR : R μ) (h31 : sL < 2147483648) (hi : i + 6 ≤ sL) : ∃ ξ, R ξ ∧ ∀ o, GL sb sL sx g 1652 i [] ξ o → GL sb sL sx g 909 i [] μ o := by
  obtain ⟨x, ν, ξ, hx, hm, hr⟩ := op_scratch hR hF (sx (i + 1)) (sx (i + 2))
  refine ⟨ξ, hr, fun o K => ?_⟩
  refine k_aload_n dL_law_909 2 rfl ?_
  refine k_aload_n dL_law_910 1 rfl ?_
  refine k_iload_n dL_law_911 0 rfl ?_
  refine k_iconst (v := nI 1) dL_law_912 rfl ?_
  refine k_iadd dL_law_913 ?_
  rw [nI_add]
  refine k_sld h31 (by omega) dL_law_914 ?_
  refine k_aload_n dL_law_915 1 rfl ?_
  refine k_iload_n dL_law_916 0 rfl ?_
  refine k_iconst (v := nI 2) dL_law_917 rfl ?_
  refine k_iadd dL_law_918 ?_
  rw [nI_add]
  refine k_sld h31 (by omega) dL_law_919 ?_
  refine k_callV (r2 := (x, ν)) (cv2 := cvI) (b := 0) (ci := 10) (w := 18) [.int (sx (i + 1)), .int (sx (i + 2))] [] mw_L_112 (by have q := ok_X11_scratch g (sx (i + 1)) (sx (i + 2)) μ; rw [hx] at q; exact q) (by decide) rfl (by decide) rfl rfl (by decide) dL_law_920 ?_
  refine k_aload_n dL_law_923 3 rfl ?_
  refine k_aload_n dL_law_924 1 rfl ?_
  refine k_iload_n dL_law_925 0 rfl ?_
  refine k_iconst (v := nI 1) dL_law_926 rfl ?_
  refine k_iadd dL_law_927 ?_
  rw [nI_add]
  refine k_sld h31 (by omega) dL_law_928 ?_
  refine k_aload_n dL_law_929 1 rfl ?_
  refine k_iload_n dL_law_930 0 rfl ?_
  refine k_iconst (v := nI 2) dL_law_931 rfl ?_
  refine k_iadd dL_law_932 ?_
  rw [nI_add]
  refine k_sld h31 (by omega) dL_law_933 ?_
  refine k_callV (r2 := (x, ξ)) (cv2 := cvI) (b := 141) (ci := 11) (w := 49) [.int (sx (i + 1)), .int (sx (i + 2))] [.int x] mw_L_115 (by have q := ok_X12_scratch g (sx (i + 1)) (sx (i + 2)) ν; rw [hm] at q; exact q) (by decide) rfl (by decide) rfl rfl (show 1 ≤ 8 by decide) dL_law_934 ?_
  exact k_icmpT dL_law_937 rfl K
theorem law_23 (hF : 2000000 ≤ F) (hR : R μ) (h31 : sL < 2147483648) (hi : i + 6 ≤ sL) : ∃ ξ, R ξ ∧ ∀ o, GL sb sL sx g 1652 i [] ξ o → GL sb sL sx g 942 i [] μ o := by
  obtain ⟨x, ν, ξ, hx, hm, hr⟩ := op_vouch hR hF (sx (i + 1))
  refine ⟨ξ, hr, fun o K => ?_⟩
  refine k_aload_n dL_law_942 2 rfl ?_
  refine k_aload_n dL_law_943 1 rfl ?_
  refine k_iload_n dL_law_944 0 rfl ?_
  refine k_iconst (v := nI 1) dL_law_945 rfl ?_
  refine k_iadd dL_law_946 ?_
  rw [nI_add]
  refine k_sld h31 (by omega) dL_law_947 ?_
  refine k_callV (r2 := (x, ν)) (cv2 := cvI) (b := 0) (ci := 10) (w := 18) [.int (sx (i + 1))] [] mw_L_116 (by have q := ok_X11_vouch g (sx (i + 1)) μ; rw [hx] at q; exact q) (by decide) rfl (by decide) rfl rfl (by decide) dL_law_948 ?_
  refine k_aload_n dL_law_951 3 rfl ?_
  refine k_aload_n dL_law_952 1 rfl ?_
  refine k_iload_n dL_law_953 0 rfl ?_
  refine k_iconst (v := nI 1) dL_law_954 rfl ?_
  refine k_iadd dL_law_955 ?_
  rw [nI_add]
  refine k_sld h31 (by omega) dL_law_956 ?_
  refine k_callV (r2 := (x, ξ)) (cv2 := cvI) (b := 141) (ci := 11) (w := 49) [.int (sx (i + 1))] [.int x] mw_L_119 (by have q := ok_X12_vouch g (sx (i + 1)) ν; rw [hm] at q; exact q) (by decide) rfl (by decide) rfl rfl (show 1 ≤ 8 by decide) dL_law_957 ?_
  exact k_icmpT dL_law_960 rfl K
theorem law_24 (hF : 2000000 ≤ F) (hR : R μ) (h31 : sL < 2147483648) (hi : i + 6 ≤ sL) : ∃ ξ, R ξ ∧ ∀ o, GL sb sL sx g 1652 i [] ξ o → GL sb sL sx g 965 i [] μ o := by
  obtain ⟨x, ν, ξ, hx, hm, hr⟩ := op_enact hR hF (sx (i + 1)) (sx (i + 2)) (sx (i + 3)) (sx (i + 4))
  refine ⟨ξ, hr, fun o K => ?_⟩
  refine k_aload_n dL_law_965 2 rfl ?_
  refine k_aload_n dL_law_966 1 rfl ?_
  refine k_iload_n dL_law_967 0 rfl ?_
  refine k_iconst (v := nI 1) dL_law_968 rfl ?_
  refine k_iadd dL_law_969 ?_
  rw [nI_add]
  refine k_sld h31 (by omega) dL_law_970 ?_
  refine k_aload_n dL_law_971 1 rfl ?_
  refine k_iload_n dL_law_972 0 rfl ?_
  refine k_iconst (v := nI 2) dL_law_973 rfl ?_
  refine k_iadd dL_law_974 ?_
  rw [nI_add]
  refine k_sld h31 (by omega) dL_law_975 ?_
  refine k_aload_n dL_law_976 1 rfl ?_
  refine k_iload_n dL_law_977 0 rfl ?_
  refine k_iconst (v := nI 3) dL_law_978 rfl ?_
  refine k_iadd dL_law_979 ?_
  rw [nI_add]
  refine k_sld h31 (by omega) dL_law_980 ?_
  refine k_aload_n dL_law_981 1 rfl ?_
  refine k_iload_n dL_law_982 0 rfl ?_
  refine k_iconst (v := nI 4) dL_law_983 rfl ?_
  refine k_iadd dL_law_984 ?_
  rw [nI_add]
  refine k_sld h31 (by omega) dL_law_985 ?_
  refine k_callV (r2 := (x, ν)) (cv2 := cvI) (b := 0) (ci := 10) (w := 18) [.int (sx (i + 1)), .int (sx (i + 2)), .int (sx (i + 3)), .int (sx (i + 4))] [] mw_L_120 (by have q := ok_X11_enact g (sx (i + 1)) (sx (i + 2)) (sx (i + 3)) (sx (i + 4)) μ; rw [hx] at q; exact q) (by decide) rfl (by decide) rfl rfl (by decide) dL_law_986 ?_
  refine k_aload_n dL_law_989 3 rfl ?_
  refine k_aload_n dL_law_990 1 rfl ?_
  refine k_iload_n dL_law_991 0 rfl ?_
  refine k_iconst (v := nI 1) dL_law_992 rfl ?_
  refine k_iadd dL_law_993 ?_
  rw [nI_add]
  refine k_sld h31 (by omega) dL_law_994 ?_
  refine k_aload_n dL_law_995 1 rfl ?_
  refine k_iload_n dL_law_996 0 rfl ?_
  refine k_iconst (v := nI 2) dL_law_997 rfl ?_
  refine k_iadd dL_law_998 ?_
  rw [nI_add]
  refine k_sld h31 (by omega) dL_law_999 ?_
  refine k_aload_n dL_law_1000 1 rfl ?_
  refine k_iload_n dL_law_1001 0 rfl ?_
  refine k_iconst (v := nI 3) dL_law_1002 rfl ?_
  refine k_iadd dL_law_1003 ?_
  rw [nI_add]
  refine k_sld h31 (by omega) dL_law_1004 ?_
  refine k_aload_n dL_law_1005 1 rfl ?_
  refine k_iload_n dL_law_1006 0 rfl ?_
  refine k_iconst (v := nI 4) dL_law_1007 rfl ?_
  refine k_iadd dL_law_1008 ?_
  rw [nI_add]
  refine k_sld h31 (by omega) dL_law_1009 ?_
  refine k_callV (r2 := (x, ξ)) (cv2 := cvI) (b := 141) (ci := 11) (w := 49) [.int (sx (i + 1)), .int (sx (i + 2)), .int (sx (i + 3)), .int (sx (i + 4))] [.int x] mw_L_124 (by have q := ok_X12_enact g (sx (i + 1)) (sx (i + 2)) (sx (i + 3)) (sx (i + 4)) ν; rw [hm] at q; exact q) (by decide) rfl (by decide) rfl rfl (show 1 ≤ 8 by decide) dL_law_1010 ?_
  exact k_icmpT dL_law_1013 rfl K
theorem law_25 (hF : 2000000 ≤ F) (hR : R μ) (h31 : sL < 2147483648) (hi : i + 6 ≤ sL) : ∃ ξ, R ξ ∧ ∀ o, GL sb sL sx g 1652 i [] ξ o → GL sb sL sx g 1018 i [] μ o := by
  obtain ⟨x, ν, ξ, hx, hm, hr⟩ := op_repeal hR hF (sx (i + 1))
  refine ⟨ξ, hr, fun o K => ?_⟩
  refine k_aload_n dL_law_1018 2 rfl ?_
  refine k_aload_n dL_law_1019 1 rfl ?_
  refine k_iload_n dL_law_1020 0 rfl ?_
  refine k_iconst (v := nI 1) dL_law_1021 rfl ?_
  refine k_iadd dL_law_1022 ?_
  rw [nI_add]
  refine k_sld h31 (by omega) dL_law_1023 ?_
  refine k_callV (r2 := (x, ν)) (cv2 := cvI) (b := 0) (ci := 10) (w := 18) [.int (sx (i + 1))] [] mw_L_125 (by have q := ok_X11_repeal g F (sx (i + 1)) μ; rw [hx] at q; exact q) (by decide) rfl (by decide) rfl rfl (by decide) dL_law_1024 ?_
  refine k_aload_n dL_law_1027 3 rfl ?_
  refine k_aload_n dL_law_1028 1 rfl ?_
  refine k_iload_n dL_law_1029 0 rfl ?_
  refine k_iconst (v := nI 1) dL_law_1030 rfl ?_
  refine k_iadd dL_law_1031 ?_
  rw [nI_add]
  refine k_sld h31 (by omega) dL_law_1032 ?_
  refine k_callV (r2 := (x, ξ)) (cv2 := cvI) (b := 141) (ci := 11) (w := 49) [.int (sx (i + 1))] [.int x] mw_L_128 (by have q := ok_X12_repeal g F (sx (i + 1)) ν; rw [hm] at q; exact q) (by decide) rfl (by decide) rfl rfl (show 1 ≤ 8 by decide) dL_law_1033 ?_
  exact k_icmpT dL_law_1036 rfl K
theorem law_26 (hF : 2000000 ≤ F) (hR : R μ) (h31 : sL < 2147483648) (hi : i + 6 ≤ sL) : ∃ ξ, R ξ ∧ ∀ o, GL sb sL sx g 1652 i [] ξ o → GL sb sL sx g 1041 i [] μ o := by
  obtain ⟨x, ν, ξ, hx, hm, hr⟩ := op_rule hR hF (sx (i + 1)) (sx (i + 2))
  refine ⟨ξ, hr, fun o K => ?_⟩
  refine k_aload_n dL_law_1041 2 rfl ?_
  refine k_aload_n dL_law_1042 1 rfl ?_
  refine k_iload_n dL_law_1043 0 rfl ?_
  refine k_iconst (v := nI 1) dL_law_1044 rfl ?_
  refine k_iadd dL_law_1045 ?_
  rw [nI_add]
  refine k_sld h31 (by omega) dL_law_1046 ?_
  refine k_aload_n dL_law_1047 1 rfl ?_
  refine k_iload_n dL_law_1048 0 rfl ?_
  refine k_iconst (v := nI 2) dL_law_1049 rfl ?_
  refine k_iadd dL_law_1050 ?_
  rw [nI_add]
  refine k_sld h31 (by omega) dL_law_1051 ?_
  refine k_callV (r2 := (x, ν)) (cv2 := cvZ) (b := 0) (ci := 10) (w := 18) [.int (sx (i + 1)), .int (sx (i + 2))] [] mw_L_129 (by have q := ok_X11_rule g (sx (i + 1)) (sx (i + 2)) μ; rw [hx] at q; exact q) (by decide) rfl (by decide) rfl rfl (by decide) dL_law_1052 ?_
  refine k_aload_n dL_law_1055 3 rfl ?_
  refine k_aload_n dL_law_1056 1 rfl ?_
  refine k_iload_n dL_law_1057 0 rfl ?_
  refine k_iconst (v := nI 1) dL_law_1058 rfl ?_
  refine k_iadd dL_law_1059 ?_
  rw [nI_add]
  refine k_sld h31 (by omega) dL_law_1060 ?_
  refine k_aload_n dL_law_1061 1 rfl ?_
  refine k_iload_n dL_law_1062 0 rfl ?_
  refine k_iconst (v := nI 2) dL_law_1063 rfl ?_
  refine k_iadd dL_law_1064 ?_
  rw [nI_add]
  refine k_sld h31 (by omega) dL_law_1065 ?_
  refine k_callV (r2 := (x, ξ)) (cv2 := cvZ) (b := 141) (ci := 11) (w := 49) [.int (sx (i + 1)), .int (sx (i + 2))] [.int (bI x)] mw_L_133 (by have q := ok_X12_rule g (sx (i + 1)) (sx (i + 2)) ν; rw [hm] at q; exact q) (by decide) rfl (by decide) rfl rfl (show 1 ≤ 8 by decide) dL_law_1066 ?_
  exact k_icmpT dL_law_1069 rfl K
theorem law_27 (hF : 2000000 ≤ F) (hR : R μ) (h31 : sL < 2147483648) (hi : i + 6 ≤ sL) : ∃ ξ, R ξ ∧ ∀ o, GL sb sL sx g 1652 i [] ξ o → GL sb sL sx g 1074 i [] μ o := by
  obtain ⟨x, ν, ξ, hx, hm, hr⟩ := op_digitIn hR hF (sx (i + 1)) (sx (i + 2))
  refine ⟨ξ, hr, fun o K => ?_⟩
  refine k_aload_n dL_law_1074 2 rfl ?_
  refine k_aload_n dL_law_1075 1 rfl ?_
  refine k_iload_n dL_law_1076 0 rfl ?_
  refine k_iconst (v := nI 1) dL_law_1077 rfl ?_
  refine k_iadd dL_law_1078 ?_
  rw [nI_add]
  refine k_sld h31 (by omega) dL_law_1079 ?_
  refine k_aload_n dL_law_1080 1 rfl ?_
  refine k_iload_n dL_law_1081 0 rfl ?_
  refine k_iconst (v := nI 2) dL_law_1082 rfl ?_
  refine k_iadd dL_law_1083 ?_
  rw [nI_add]
  refine k_sld h31 (by omega) dL_law_1084 ?_
  refine k_callV (r2 := (x, ν)) (cv2 := cvI) (b := 0) (ci := 10) (w := 18) [.int (sx (i + 1)), .int (sx (i + 2))] [] mw_L_134 (by have q := ok_X11_digitIn g F (sx (i + 1)) (sx (i + 2)) μ; rw [hx] at q; exact q) (by decide) rfl (by decide) rfl rfl (by decide) dL_law_1085 ?_
  refine k_aload_n dL_law_1088 3 rfl ?_
  refine k_aload_n dL_law_1089 1 rfl ?_
  refine k_iload_n dL_law_1090 0 rfl ?_
  refine k_iconst (v := nI 1) dL_law_1091 rfl ?_
  refine k_iadd dL_law_1092 ?_
  rw [nI_add]
  refine k_sld h31 (by omega) dL_law_1093 ?_
  refine k_aload_n dL_law_1094 1 rfl ?_
  refine k_iload_n dL_law_1095 0 rfl ?_
  refine k_iconst (v := nI 2) dL_law_1096 rfl ?_
  refine k_iadd dL_law_1097 ?_
  rw [nI_add]
  refine k_sld h31 (by omega) dL_law_1098 ?_
  refine k_callV (r2 := (x, ξ)) (cv2 := cvI) (b := 141) (ci := 11) (w := 49) [.int (sx (i + 1)), .int (sx (i + 2))] [.int x] mw_L_137 (by have q := ok_X12_digitIn g F (sx (i + 1)) (sx (i + 2)) ν; rw [hm] at q; exact q) (by decide) rfl (by decide) rfl rfl (show 1 ≤ 8 by decide) dL_law_1099 ?_
  exact k_icmpT dL_law_1102 rfl K
theorem law_28 (hF : 2000000 ≤ F) (hR : R μ) (h31 : sL < 2147483648) (hi : i + 6 ≤ sL) : ∃ ξ, R ξ ∧ ∀ o, GL sb sL sx g 1652 i [] ξ o → GL sb sL sx g 1107 i [] μ o := by
  obtain ⟨x, ν, ξ, hx, hm, hr⟩ := op_wrongIn hR hF (sx (i + 1))
  refine ⟨ξ, hr, fun o K => ?_⟩
  refine k_aload_n dL_law_1107 2 rfl ?_
  refine k_aload_n dL_law_1108 1 rfl ?_
  refine k_iload_n dL_law_1109 0 rfl ?_
  refine k_iconst (v := nI 1) dL_law_1110 rfl ?_
  refine k_iadd dL_law_1111 ?_
  rw [nI_add]
  refine k_sld h31 (by omega) dL_law_1112 ?_
  refine k_callV (r2 := (x, ν)) (cv2 := cvI) (b := 0) (ci := 10) (w := 18) [.int (sx (i + 1))] [] mw_L_138 (by have q := ok_X11_wrongIn g F (sx (i + 1)) μ; rw [hx] at q; exact q) (by decide) rfl (by decide) rfl rfl (by decide) dL_law_1113 ?_
  refine k_aload_n dL_law_1116 3 rfl ?_
  refine k_aload_n dL_law_1117 1 rfl ?_
  refine k_iload_n dL_law_1118 0 rfl ?_
  refine k_iconst (v := nI 1) dL_law_1119 rfl ?_
  refine k_iadd dL_law_1120 ?_
  rw [nI_add]
  refine k_sld h31 (by omega) dL_law_1121 ?_
  refine k_callV (r2 := (x, ξ)) (cv2 := cvI) (b := 141) (ci := 11) (w := 49) [.int (sx (i + 1))] [.int x] mw_L_141 (by have q := ok_X12_wrongIn g F (sx (i + 1)) ν; rw [hm] at q; exact q) (by decide) rfl (by decide) rfl rfl (show 1 ≤ 8 by decide) dL_law_1122 ?_
  exact k_icmpT dL_law_1125 rfl K
theorem law_29 (hF : 2000000 ≤ F) (hR : R μ) (h31 : sL < 2147483648) (hi : i + 6 ≤ sL) : ∃ ξ, R ξ ∧ ∀ o, GL sb sL sx g 1652 i [] ξ o → GL sb sL sx g 1130 i [] μ o := by
  obtain ⟨x, ν, ξ, hx, hm, hr⟩ := op_wrongBy hR hF (sx (i + 1))
  refine ⟨ξ, hr, fun o K => ?_⟩
  refine k_aload_n dL_law_1130 2 rfl ?_
  refine k_aload_n dL_law_1131 1 rfl ?_
  refine k_iload_n dL_law_1132 0 rfl ?_
  refine k_iconst (v := nI 1) dL_law_1133 rfl ?_
  refine k_iadd dL_law_1134 ?_
  rw [nI_add]
  refine k_sld h31 (by omega) dL_law_1135 ?_
  refine k_callV (r2 := (x, ν)) (cv2 := cvI) (b := 0) (ci := 10) (w := 18) [.int (sx (i + 1))] [] mw_L_142 (by have q := ok_X11_wrongBy g F (sx (i + 1)) μ; rw [hx] at q; exact q) (by decide) rfl (by decide) rfl rfl (by decide) dL_law_1136 ?_
  refine k_aload_n dL_law_1139 3 rfl ?_
  refine k_aload_n dL_law_1140 1 rfl ?_
  refine k_iload_n dL_law_1141 0 rfl ?_
  refine k_iconst (v := nI 1) dL_law_1142 rfl ?_
  refine k_iadd dL_law_1143 ?_
  rw [nI_add]
  refine k_sld h31 (by omega) dL_law_1144 ?_
  refine k_callV (r2 := (x, ξ)) (cv2 := cvI) (b := 141) (ci := 11) (w := 49) [.int (sx (i + 1))] [.int x] mw_L_145 (by have q := ok_X12_wrongBy g F (sx (i + 1)) ν; rw [hm] at q; exact q) (by decide) rfl (by decide) rfl rfl (show 1 ≤ 8 by decide) dL_law_1145 ?_
  exact k_icmpT dL_law_1148 rfl K
theorem law_30 (hF : 2000000 ≤ F) (hR : R μ) (h31 : sL < 2147483648) (hi : i + 6 ≤ sL) : ∃ ξ, R ξ ∧ ∀ o, GL sb sL sx g 1652 i [] ξ o → GL sb sL sx g 1153 i [] μ o := by
  obtain ⟨x, ν, ξ, hx, hm, hr⟩ := op_evenIn hR hF 
  refine ⟨ξ, hr, fun o K => ?_⟩
  refine k_aload_n dL_law_1153 2 rfl ?_
  refine k_callV (r2 := (x, ν)) (cv2 := cvI) (b := 0) (ci := 10) (w := 18) [] [] mw_L_146 (by have q := ok_X11_evenIn g F μ; rw [hx] at q; exact q) (by decide) rfl (by decide) rfl rfl (by decide) dL_law_1154 ?_
  refine k_aload_n dL_law_1157 3 rfl ?_
  refine k_callV (r2 := (x, ξ)) (cv2 := cvI) (b := 141) (ci := 11) (w := 49) [] [.int x] mw_L_149 (by have q := ok_X12_evenIn g F ν; rw [hm] at q; exact q) (by decide) rfl (by decide) rfl rfl (show 1 ≤ 8 by decide) dL_law_1158 ?_
  exact k_icmpT dL_law_1161 rfl K
theorem law_31 (hF : 2000000 ≤ F) (hR : R μ) (h31 : sL < 2147483648) (hi : i + 6 ≤ sL) : ∃ ξ, R ξ ∧ ∀ o, GL sb sL sx g 1652 i [] ξ o → GL sb sL sx g 1166 i [] μ o := by
  obtain ⟨x, ν, ξ, hx, hm, hr⟩ := op_stillIn hR hF 
  refine ⟨ξ, hr, fun o K => ?_⟩
  refine k_aload_n dL_law_1166 2 rfl ?_
  refine k_callV (r2 := (x, ν)) (cv2 := cvI) (b := 0) (ci := 10) (w := 18) [] [] mw_L_150 (by have q := ok_X11_stillIn g F μ; rw [hx] at q; exact q) (by decide) rfl (by decide) rfl rfl (by decide) dL_law_1167 ?_
  refine k_aload_n dL_law_1170 3 rfl ?_
  refine k_callV (r2 := (x, ξ)) (cv2 := cvI) (b := 141) (ci := 11) (w := 49) [] [.int x] mw_L_153 (by have q := ok_X12_stillIn g F ν; rw [hm] at q; exact q) (by decide) rfl (by decide) rfl rfl (show 1 ≤ 8 by decide) dL_law_1171 ?_
  exact k_icmpT dL_law_1174 rfl K
theorem law_32 (hF : 2000000 ≤ F) (hR : R μ) (h31 : sL < 2147483648) (hi : i + 6 ≤ sL) : ∃ ξ, R ξ ∧ ∀ o, GL sb sL sx g 1652 i [] ξ o → GL sb sL sx g 1179 i [] μ o := by
  obtain ⟨x, ν, ξ, hx, hm, hr⟩ := op_bears hR hF (sx (i + 1))
  refine ⟨ξ, hr, fun o K => ?_⟩
  refine k_aload_n dL_law_1179 2 rfl ?_
  refine k_aload_n dL_law_1180 1 rfl ?_
  refine k_iload_n dL_law_1181 0 rfl ?_
  refine k_iconst (v := nI 1) dL_law_1182 rfl ?_
  refine k_iadd dL_law_1183 ?_
  rw [nI_add]
  refine k_sld h31 (by omega) dL_law_1184 ?_
  refine k_callV (r2 := (x, ν)) (cv2 := cvI) (b := 0) (ci := 10) (w := 18) [.int (sx (i + 1))] [] mw_L_154 (by have q := ok_X11_bears g F (sx (i + 1)) μ; rw [hx] at q; exact q) (by decide) rfl (by decide) rfl rfl (by decide) dL_law_1185 ?_
  refine k_aload_n dL_law_1188 3 rfl ?_
  refine k_aload_n dL_law_1189 1 rfl ?_
  refine k_iload_n dL_law_1190 0 rfl ?_
  refine k_iconst (v := nI 1) dL_law_1191 rfl ?_
  refine k_iadd dL_law_1192 ?_
  rw [nI_add]
  refine k_sld h31 (by omega) dL_law_1193 ?_
  refine k_callV (r2 := (x, ξ)) (cv2 := cvI) (b := 141) (ci := 11) (w := 49) [.int (sx (i + 1))] [.int x] mw_L_157 (by have q := ok_X12_bears g F (sx (i + 1)) ν; rw [hm] at q; exact q) (by decide) rfl (by decide) rfl rfl (show 1 ≤ 8 by decide) dL_law_1194 ?_
  exact k_icmpT dL_law_1197 rfl K
theorem law_33 (hF : 2000000 ≤ F) (hR : R μ) (h31 : sL < 2147483648) (hi : i + 6 ≤ sL) : ∃ ξ, R ξ ∧ ∀ o, GL sb sL sx g 1652 i [] ξ o → GL sb sL sx g 1202 i [] μ o := by
  obtain ⟨x, ν, ξ, hx, hm, hr⟩ := op_round hR hF (sx (i + 1)) (sx (i + 2))
  refine ⟨ξ, hr, fun o K => ?_⟩
  refine k_aload_n dL_law_1202 2 rfl ?_
  refine k_aload_n dL_law_1203 1 rfl ?_
  refine k_iload_n dL_law_1204 0 rfl ?_
  refine k_iconst (v := nI 1) dL_law_1205 rfl ?_
  refine k_iadd dL_law_1206 ?_
  rw [nI_add]
  refine k_sld h31 (by omega) dL_law_1207 ?_
  refine k_aload_n dL_law_1208 1 rfl ?_
  refine k_iload_n dL_law_1209 0 rfl ?_
  refine k_iconst (v := nI 2) dL_law_1210 rfl ?_
  refine k_iadd dL_law_1211 ?_
  rw [nI_add]
  refine k_sld h31 (by omega) dL_law_1212 ?_
  refine k_callV (r2 := (x, ν)) (cv2 := cvI) (b := 0) (ci := 10) (w := 18) [.int (sx (i + 1)), .int (sx (i + 2))] [] mw_L_158 (by have q := ok_X11_round g F (sx (i + 1)) (sx (i + 2)) μ; rw [hx] at q; exact q) (by decide) rfl (by decide) rfl rfl (by decide) dL_law_1213 ?_
  refine k_aload_n dL_law_1216 3 rfl ?_
  refine k_aload_n dL_law_1217 1 rfl ?_
  refine k_iload_n dL_law_1218 0 rfl ?_
  refine k_iconst (v := nI 1) dL_law_1219 rfl ?_
  refine k_iadd dL_law_1220 ?_
  rw [nI_add]
  refine k_sld h31 (by omega) dL_law_1221 ?_
  refine k_aload_n dL_law_1222 1 rfl ?_
  refine k_iload_n dL_law_1223 0 rfl ?_
  refine k_iconst (v := nI 2) dL_law_1224 rfl ?_
  refine k_iadd dL_law_1225 ?_
  rw [nI_add]
  refine k_sld h31 (by omega) dL_law_1226 ?_
  refine k_callV (r2 := (x, ξ)) (cv2 := cvI) (b := 141) (ci := 11) (w := 49) [.int (sx (i + 1)), .int (sx (i + 2))] [.int x] mw_L_161 (by have q := ok_X12_round g F (sx (i + 1)) (sx (i + 2)) ν; rw [hm] at q; exact q) (by decide) rfl (by decide) rfl rfl (show 1 ≤ 8 by decide) dL_law_1227 ?_
  exact k_icmpT dL_law_1230 rfl K
theorem law_34 (hF : 2000000 ≤ F) (hR : R μ) (h31 : sL < 2147483648) (hi : i + 6 ≤ sL) : ∃ ξ, R ξ ∧ ∀ o, GL sb sL sx g 1652 i [] ξ o → GL sb sL sx g 1235 i [] μ o := by
  obtain ⟨x, ν, ξ, hx, hm, hr⟩ := op_roundAt hR hF (sx (i + 1)) (sx (i + 2)) (sx (i + 3))
  refine ⟨ξ, hr, fun o K => ?_⟩
  refine k_aload_n dL_law_1235 2 rfl ?_
  refine k_aload_n dL_law_1236 1 rfl ?_
  refine k_iload_n dL_law_1237 0 rfl ?_
  refine k_iconst (v := nI 1) dL_law_1238 rfl ?_
  refine k_iadd dL_law_1239 ?_
  rw [nI_add]
  refine k_sld h31 (by omega) dL_law_1240 ?_
  refine k_aload_n dL_law_1241 1 rfl ?_
  refine k_iload_n dL_law_1242 0 rfl ?_
  refine k_iconst (v := nI 2) dL_law_1243 rfl ?_
  refine k_iadd dL_law_1244 ?_
  rw [nI_add]
  refine k_sld h31 (by omega) dL_law_1245 ?_
  refine k_aload_n dL_law_1246 1 rfl ?_
  refine k_iload_n dL_law_1247 0 rfl ?_
  refine k_iconst (v := nI 3) dL_law_1248 rfl ?_
  refine k_iadd dL_law_1249 ?_
  rw [nI_add]
  refine k_sld h31 (by omega) dL_law_1250 ?_
  refine k_callV (r2 := (x, ν)) (cv2 := cvI) (b := 0) (ci := 10) (w := 18) [.int (sx (i + 1)), .int (sx (i + 2)), .int (sx (i + 3))] [] mw_L_162 (by have q := ok_X11_roundAt g F (sx (i + 1)) (sx (i + 2)) (sx (i + 3)) μ; rw [hx] at q; exact q) (by decide) rfl (by decide) rfl rfl (by decide) dL_law_1251 ?_
  refine k_aload_n dL_law_1254 3 rfl ?_
  refine k_aload_n dL_law_1255 1 rfl ?_
  refine k_iload_n dL_law_1256 0 rfl ?_
  refine k_iconst (v := nI 1) dL_law_1257 rfl ?_
  refine k_iadd dL_law_1258 ?_
  rw [nI_add]
  refine k_sld h31 (by omega) dL_law_1259 ?_
  refine k_aload_n dL_law_1260 1 rfl ?_
  refine k_iload_n dL_law_1261 0 rfl ?_
  refine k_iconst (v := nI 2) dL_law_1262 rfl ?_
  refine k_iadd dL_law_1263 ?_
  rw [nI_add]
  refine k_sld h31 (by omega) dL_law_1264 ?_
  refine k_aload_n dL_law_1265 1 rfl ?_
  refine k_iload_n dL_law_1266 0 rfl ?_
  refine k_iconst (v := nI 3) dL_law_1267 rfl ?_
  refine k_iadd dL_law_1268 ?_
  rw [nI_add]
  refine k_sld h31 (by omega) dL_law_1269 ?_
  refine k_callV (r2 := (x, ξ)) (cv2 := cvI) (b := 141) (ci := 11) (w := 49) [.int (sx (i + 1)), .int (sx (i + 2)), .int (sx (i + 3))] [.int x] mw_L_166 (by have q := ok_X12_roundAt g F (sx (i + 1)) (sx (i + 2)) (sx (i + 3)) ν; rw [hm] at q; exact q) (by decide) rfl (by decide) rfl rfl (show 1 ≤ 8 by decide) dL_law_1270 ?_
  exact k_icmpT dL_law_1273 rfl K
theorem law_35 (hF : 2000000 ≤ F) (hR : R μ) (h31 : sL < 2147483648) (hi : i + 6 ≤ sL) : ∃ ξ, R ξ ∧ ∀ o, GL sb sL sx g 1652 i [] ξ o → GL sb sL sx g 1278 i [] μ o := by
  obtain ⟨x, ν, ξ, hx, hm, hr⟩ := op_far hR hF (sx (i + 1))
  refine ⟨ξ, hr, fun o K => ?_⟩
  refine k_aload_n dL_law_1278 2 rfl ?_
  refine k_aload_n dL_law_1279 1 rfl ?_
  refine k_iload_n dL_law_1280 0 rfl ?_
  refine k_iconst (v := nI 1) dL_law_1281 rfl ?_
  refine k_iadd dL_law_1282 ?_
  rw [nI_add]
  refine k_sld h31 (by omega) dL_law_1283 ?_
  refine k_callV (r2 := (x, ν)) (cv2 := cvI) (b := 0) (ci := 10) (w := 18) [.int (sx (i + 1))] [] mw_L_167 (by have q := ok_X11_far g (sx (i + 1)) μ; rw [hx] at q; exact q) (by decide) rfl (by decide) rfl rfl (by decide) dL_law_1284 ?_
  refine k_aload_n dL_law_1287 3 rfl ?_
  refine k_aload_n dL_law_1288 1 rfl ?_
  refine k_iload_n dL_law_1289 0 rfl ?_
  refine k_iconst (v := nI 1) dL_law_1290 rfl ?_
  refine k_iadd dL_law_1291 ?_
  rw [nI_add]
  refine k_sld h31 (by omega) dL_law_1292 ?_
  refine k_callV (r2 := (x, ξ)) (cv2 := cvI) (b := 141) (ci := 11) (w := 49) [.int (sx (i + 1))] [.int x] mw_L_170 (by have q := ok_X12_far g (sx (i + 1)) ν; rw [hm] at q; exact q) (by decide) rfl (by decide) rfl rfl (show 1 ≤ 8 by decide) dL_law_1293 ?_
  exact k_icmpT dL_law_1296 rfl K
theorem law_36 (hF : 2000000 ≤ F) (hR : R μ) (h31 : sL < 2147483648) (hi : i + 6 ≤ sL) : ∃ ξ, R ξ ∧ ∀ o, GL sb sL sx g 1652 i [] ξ o → GL sb sL sx g 1301 i [] μ o := by
  obtain ⟨x, ν, ξ, hx, hm, hr⟩ := op_past hR hF (sx (i + 1))
  refine ⟨ξ, hr, fun o K => ?_⟩
  refine k_aload_n dL_law_1301 2 rfl ?_
  refine k_aload_n dL_law_1302 1 rfl ?_
  refine k_iload_n dL_law_1303 0 rfl ?_
  refine k_iconst (v := nI 1) dL_law_1304 rfl ?_
  refine k_iadd dL_law_1305 ?_
  rw [nI_add]
  refine k_sld h31 (by omega) dL_law_1306 ?_
  refine k_callV (r2 := (x, ν)) (cv2 := cvI) (b := 0) (ci := 10) (w := 18) [.int (sx (i + 1))] [] mw_L_171 (by have q := ok_X11_past g F (sx (i + 1)) μ; rw [hx] at q; exact q) (by decide) rfl (by decide) rfl rfl (by decide) dL_law_1307 ?_
  refine k_aload_n dL_law_1310 3 rfl ?_
  refine k_aload_n dL_law_1311 1 rfl ?_
  refine k_iload_n dL_law_1312 0 rfl ?_
  refine k_iconst (v := nI 1) dL_law_1313 rfl ?_
  refine k_iadd dL_law_1314 ?_
  rw [nI_add]
  refine k_sld h31 (by omega) dL_law_1315 ?_
  refine k_callV (r2 := (x, ξ)) (cv2 := cvI) (b := 141) (ci := 11) (w := 49) [.int (sx (i + 1))] [.int x] mw_L_174 (by have q := ok_X12_past g F (sx (i + 1)) ν; rw [hm] at q; exact q) (by decide) rfl (by decide) rfl rfl (show 1 ≤ 8 by decide) dL_law_1316 ?_
  exact k_icmpT dL_law_1319 rfl K
theorem law_37 (hF : 2000000 ≤ F) (hR : R μ) (h31 : sL < 2147483648) (hi : i + 6 ≤ sL) : ∃ ξ, R ξ ∧ ∀ o, GL sb sL sx g 1652 i [] ξ o → GL sb sL sx g 1324 i [] μ o := by
  obtain ⟨x, ν, ξ, hx, hm, hr⟩ := op_likely hR hF (sx (i + 1)) (sx (i + 2))
  refine ⟨ξ, hr, fun o K => ?_⟩
  refine k_aload_n dL_law_1324 2 rfl ?_
  refine k_aload_n dL_law_1325 1 rfl ?_
  refine k_iload_n dL_law_1326 0 rfl ?_
  refine k_iconst (v := nI 1) dL_law_1327 rfl ?_
  refine k_iadd dL_law_1328 ?_
  rw [nI_add]
  refine k_sld h31 (by omega) dL_law_1329 ?_
  refine k_aload_n dL_law_1330 1 rfl ?_
  refine k_iload_n dL_law_1331 0 rfl ?_
  refine k_iconst (v := nI 2) dL_law_1332 rfl ?_
  refine k_iadd dL_law_1333 ?_
  rw [nI_add]
  refine k_sld h31 (by omega) dL_law_1334 ?_
  refine k_callV (r2 := (x, ν)) (cv2 := cvI) (b := 0) (ci := 10) (w := 18) [.int (sx (i + 1)), .int (sx (i + 2))] [] mw_L_175 (by have q := ok_X11_likely g F (sx (i + 1)) (sx (i + 2)) μ; rw [hx] at q; exact q) (by decide) rfl (by decide) rfl rfl (by decide) dL_law_1335 ?_
  refine k_aload_n dL_law_1338 3 rfl ?_
  refine k_aload_n dL_law_1339 1 rfl ?_
  refine k_iload_n dL_law_1340 0 rfl ?_
  refine k_iconst (v := nI 1) dL_law_1341 rfl ?_
  refine k_iadd dL_law_1342 ?_
  rw [nI_add]
  refine k_sld h31 (by omega) dL_law_1343 ?_
  refine k_aload_n dL_law_1344 1 rfl ?_
  refine k_iload_n dL_law_1345 0 rfl ?_
  refine k_iconst (v := nI 2) dL_law_1346 rfl ?_
  refine k_iadd dL_law_1347 ?_
  rw [nI_add]
  refine k_sld h31 (by omega) dL_law_1348 ?_
  refine k_callV (r2 := (x, ξ)) (cv2 := cvI) (b := 141) (ci := 11) (w := 49) [.int (sx (i + 1)), .int (sx (i + 2))] [.int x] mw_L_178 (by have q := ok_X12_likely g F (sx (i + 1)) (sx (i + 2)) ν; rw [hm] at q; exact q) (by decide) rfl (by decide) rfl rfl (show 1 ≤ 8 by decide) dL_law_1349 ?_
  exact k_icmpT dL_law_1352 rfl K
theorem law_38 (hF : 2000000 ≤ F) (hR : R μ) (h31 : sL < 2147483648) (hi : i + 6 ≤ sL) : ∃ ξ, R ξ ∧ ∀ o, GL sb sL sx g 1652 i [] ξ o → GL sb sL sx g 1357 i [] μ o := by
  obtain ⟨x, ν, ξ, hx, hm, hr⟩ := op_leastPast hR hF (sx (i + 1))
  refine ⟨ξ, hr, fun o K => ?_⟩
  refine k_aload_n dL_law_1357 2 rfl ?_
  refine k_aload_n dL_law_1358 1 rfl ?_
  refine k_iload_n dL_law_1359 0 rfl ?_
  refine k_iconst (v := nI 1) dL_law_1360 rfl ?_
  refine k_iadd dL_law_1361 ?_
  rw [nI_add]
  refine k_sld h31 (by omega) dL_law_1362 ?_
  refine k_callV (r2 := (x, ν)) (cv2 := cvI) (b := 0) (ci := 10) (w := 18) [.int (sx (i + 1))] [] mw_L_179 (by have q := ok_X11_leastPast g F (sx (i + 1)) μ; rw [hx] at q; exact q) (by decide) rfl (by decide) rfl rfl (by decide) dL_law_1363 ?_
  refine k_aload_n dL_law_1366 3 rfl ?_
  refine k_aload_n dL_law_1367 1 rfl ?_
  refine k_iload_n dL_law_1368 0 rfl ?_
  refine k_iconst (v := nI 1) dL_law_1369 rfl ?_
  refine k_iadd dL_law_1370 ?_
  rw [nI_add]
  refine k_sld h31 (by omega) dL_law_1371 ?_
  refine k_callV (r2 := (x, ξ)) (cv2 := cvI) (b := 141) (ci := 11) (w := 49) [.int (sx (i + 1))] [.int x] mw_L_182 (by have q := ok_X12_leastPast g F (sx (i + 1)) ν; rw [hm] at q; exact q) (by decide) rfl (by decide) rfl rfl (show 1 ≤ 8 by decide) dL_law_1372 ?_
  exact k_icmpT dL_law_1375 rfl K
theorem law_39 (hF : 2000000 ≤ F) (hR : R μ) (h31 : sL < 2147483648) (hi : i + 6 ≤ sL) : ∃ ξ, R ξ ∧ ∀ o, GL sb sL sx g 1652 i [] ξ o → GL sb sL sx g 1380 i [] μ o := by
  obtain ⟨x, ν, ξ, hx, hm, hr⟩ := op_may hR hF (sx (i + 1))
  refine ⟨ξ, hr, fun o K => ?_⟩
  refine k_aload_n dL_law_1380 2 rfl ?_
  refine k_aload_n dL_law_1381 1 rfl ?_
  refine k_iload_n dL_law_1382 0 rfl ?_
  refine k_iconst (v := nI 1) dL_law_1383 rfl ?_
  refine k_iadd dL_law_1384 ?_
  rw [nI_add]
  refine k_sld h31 (by omega) dL_law_1385 ?_
  refine k_callV (r2 := (x, ν)) (cv2 := cvI) (b := 0) (ci := 10) (w := 18) [.int (sx (i + 1))] [] mw_L_183 (by have q := ok_X11_may g F (sx (i + 1)) μ; rw [hx] at q; exact q) (by decide) rfl (by decide) rfl rfl (by decide) dL_law_1386 ?_
  refine k_aload_n dL_law_1389 3 rfl ?_
  refine k_aload_n dL_law_1390 1 rfl ?_
  refine k_iload_n dL_law_1391 0 rfl ?_
  refine k_iconst (v := nI 1) dL_law_1392 rfl ?_
  refine k_iadd dL_law_1393 ?_
  rw [nI_add]
  refine k_sld h31 (by omega) dL_law_1394 ?_
  refine k_callV (r2 := (x, ξ)) (cv2 := cvI) (b := 141) (ci := 11) (w := 49) [.int (sx (i + 1))] [.int x] mw_L_186 (by have q := ok_X12_may g F (sx (i + 1)) ν; rw [hm] at q; exact q) (by decide) rfl (by decide) rfl rfl (show 1 ≤ 8 by decide) dL_law_1395 ?_
  exact k_icmpT dL_law_1398 rfl K
theorem law_40 (hF : 2000000 ≤ F) (hR : R μ) (h31 : sL < 2147483648) (hi : i + 6 ≤ sL) : ∃ ξ, R ξ ∧ ∀ o, GL sb sL sx g 1652 i [] ξ o → GL sb sL sx g 1403 i [] μ o := by
  obtain ⟨x, ν, ξ, hx, hm, hr⟩ := op_theft hR hF 
  refine ⟨ξ, hr, fun o K => ?_⟩
  refine k_aload_n dL_law_1403 2 rfl ?_
  refine k_callV (r2 := (x, ν)) (cv2 := cvI) (b := 0) (ci := 10) (w := 18) [] [] mw_L_187 (by have q := ok_X11_theft g F μ; rw [hx] at q; exact q) (by decide) rfl (by decide) rfl rfl (by decide) dL_law_1404 ?_
  refine k_aload_n dL_law_1407 3 rfl ?_
  refine k_callV (r2 := (x, ξ)) (cv2 := cvI) (b := 141) (ci := 11) (w := 49) [] [.int x] mw_L_190 (by have q := ok_X12_theft g F ν; rw [hm] at q; exact q) (by decide) rfl (by decide) rfl rfl (show 1 ≤ 8 by decide) dL_law_1408 ?_
  exact k_icmpT dL_law_1411 rfl K
theorem law_41 (hF : 2000000 ≤ F) (hR : R μ) (h31 : sL < 2147483648) (hi : i + 6 ≤ sL) : ∃ ξ, R ξ ∧ ∀ o, GL sb sL sx g 1652 i [] ξ o → GL sb sL sx g 1416 i [] μ o := by
  obtain ⟨x, ν, ξ, hx, hm, hr⟩ := op_told hR hF 
  refine ⟨ξ, hr, fun o K => ?_⟩
  refine k_aload_n dL_law_1416 2 rfl ?_
  refine k_callV (r2 := (x, ν)) (cv2 := cvI) (b := 0) (ci := 10) (w := 18) [] [] mw_L_191 (by have q := ok_X11_told g F μ; rw [hx] at q; exact q) (by decide) rfl (by decide) rfl rfl (by decide) dL_law_1417 ?_
  refine k_aload_n dL_law_1420 3 rfl ?_
  refine k_callV (r2 := (x, ξ)) (cv2 := cvI) (b := 141) (ci := 11) (w := 49) [] [.int x] mw_L_194 (by have q := ok_X12_told g F ν; rw [hm] at q; exact q) (by decide) rfl (by decide) rfl rfl (show 1 ≤ 8 by decide) dL_law_1421 ?_
  exact k_icmpT dL_law_1424 rfl K
theorem law_42 (hF : 2000000 ≤ F) (hR : R μ) (h31 : sL < 2147483648) (hi : i + 6 ≤ sL) : ∃ ξ, R ξ ∧ ∀ o, GL sb sL sx g 1652 i [] ξ o → GL sb sL sx g 1429 i [] μ o := by
  obtain ⟨x, ν, ξ, hx, hm, hr⟩ := op_rubbed hR hF 
  refine ⟨ξ, hr, fun o K => ?_⟩
  refine k_aload_n dL_law_1429 2 rfl ?_
  refine k_callV (r2 := (x, ν)) (cv2 := cvI) (b := 0) (ci := 10) (w := 18) [] [] mw_L_195 (by have q := ok_X11_rubbed g F μ; rw [hx] at q; exact q) (by decide) rfl (by decide) rfl rfl (by decide) dL_law_1430 ?_
  refine k_aload_n dL_law_1433 3 rfl ?_
  refine k_callV (r2 := (x, ξ)) (cv2 := cvI) (b := 141) (ci := 11) (w := 49) [] [.int x] mw_L_198 (by have q := ok_X12_rubbed g F ν; rw [hm] at q; exact q) (by decide) rfl (by decide) rfl rfl (show 1 ≤ 8 by decide) dL_law_1434 ?_
  exact k_icmpT dL_law_1437 rfl K
theorem law_43 (hF : 2000000 ≤ F) (hR : R μ) (h31 : sL < 2147483648) (hi : i + 6 ≤ sL) : ∃ ξ, R ξ ∧ ∀ o, GL sb sL sx g 1652 i [] ξ o → GL sb sL sx g 1442 i [] μ o := by
  obtain ⟨x, ν, ξ, hx, hm, hr⟩ := op_rubbedSet hR hF 
  refine ⟨ξ, hr, fun o K => ?_⟩
  refine k_aload_n dL_law_1442 2 rfl ?_
  refine k_callV (r2 := (x, ν)) (cv2 := cvI) (b := 0) (ci := 10) (w := 18) [] [] mw_L_199 (by have q := ok_X11_rubbedSet g F μ; rw [hx] at q; exact q) (by decide) rfl (by decide) rfl rfl (by decide) dL_law_1443 ?_
  refine k_aload_n dL_law_1446 3 rfl ?_
  refine k_callV (r2 := (x, ξ)) (cv2 := cvI) (b := 141) (ci := 11) (w := 49) [] [.int x] mw_L_202 (by have q := ok_X12_rubbedSet g F ν; rw [hm] at q; exact q) (by decide) rfl (by decide) rfl rfl (show 1 ≤ 8 by decide) dL_law_1447 ?_
  exact k_icmpT dL_law_1450 rfl K
theorem law_44 (hF : 2000000 ≤ F) (hR : R μ) (h31 : sL < 2147483648) (hi : i + 6 ≤ sL) : ∃ ξ, R ξ ∧ ∀ o, GL sb sL sx g 1652 i [] ξ o → GL sb sL sx g 1455 i [] μ o := by
  obtain ⟨x, ν, ξ, hx, hm, hr⟩ := op_game hR hF (sx (i + 1))
  refine ⟨ξ, hr, fun o K => ?_⟩
  refine k_aload_n dL_law_1455 2 rfl ?_
  refine k_aload_n dL_law_1456 1 rfl ?_
  refine k_iload_n dL_law_1457 0 rfl ?_
  refine k_iconst (v := nI 1) dL_law_1458 rfl ?_
  refine k_iadd dL_law_1459 ?_
  rw [nI_add]
  refine k_sld h31 (by omega) dL_law_1460 ?_
  refine k_callV (r2 := (x, ν)) (cv2 := cvI) (b := 0) (ci := 10) (w := 18) [.int (sx (i + 1))] [] mw_L_203 (by have q := ok_X11_game g F (sx (i + 1)) μ; rw [hx] at q; exact q) (by decide) rfl (by decide) rfl rfl (by decide) dL_law_1461 ?_
  refine k_aload_n dL_law_1464 3 rfl ?_
  refine k_aload_n dL_law_1465 1 rfl ?_
  refine k_iload_n dL_law_1466 0 rfl ?_
  refine k_iconst (v := nI 1) dL_law_1467 rfl ?_
  refine k_iadd dL_law_1468 ?_
  rw [nI_add]
  refine k_sld h31 (by omega) dL_law_1469 ?_
  refine k_callV (r2 := (x, ξ)) (cv2 := cvI) (b := 141) (ci := 11) (w := 49) [.int (sx (i + 1))] [.int x] mw_L_206 (by have q := ok_X12_game g F (sx (i + 1)) ν; rw [hm] at q; exact q) (by decide) rfl (by decide) rfl rfl (show 1 ≤ 8 by decide) dL_law_1470 ?_
  exact k_icmpT dL_law_1473 rfl K
theorem law_45 (hF : 2000000 ≤ F) (hR : R μ) (h31 : sL < 2147483648) (hi : i + 6 ≤ sL) : ∃ ξ, R ξ ∧ ∀ o, GL sb sL sx g 1652 i [] ξ o → GL sb sL sx g 1478 i [] μ o := by
  obtain ⟨x, ν, ξ, hx, hm, hr⟩ := op_moveOf hR hF (sx (i + 1))
  refine ⟨ξ, hr, fun o K => ?_⟩
  refine k_aload_n dL_law_1478 2 rfl ?_
  refine k_aload_n dL_law_1479 1 rfl ?_
  refine k_iload_n dL_law_1480 0 rfl ?_
  refine k_iconst (v := nI 1) dL_law_1481 rfl ?_
  refine k_iadd dL_law_1482 ?_
  rw [nI_add]
  refine k_sld h31 (by omega) dL_law_1483 ?_
  refine k_callV (r2 := (x, ν)) (cv2 := cvI) (b := 0) (ci := 10) (w := 18) [.int (sx (i + 1))] [] mw_L_207 (by have q := ok_X11_moveOf g F (sx (i + 1)) μ; rw [hx] at q; exact q) (by decide) rfl (by decide) rfl rfl (by decide) dL_law_1484 ?_
  refine k_aload_n dL_law_1487 3 rfl ?_
  refine k_aload_n dL_law_1488 1 rfl ?_
  refine k_iload_n dL_law_1489 0 rfl ?_
  refine k_iconst (v := nI 1) dL_law_1490 rfl ?_
  refine k_iadd dL_law_1491 ?_
  rw [nI_add]
  refine k_sld h31 (by omega) dL_law_1492 ?_
  refine k_callV (r2 := (x, ξ)) (cv2 := cvI) (b := 141) (ci := 11) (w := 49) [.int (sx (i + 1))] [.int x] mw_L_210 (by have q := ok_X12_moveOf g F (sx (i + 1)) ν; rw [hm] at q; exact q) (by decide) rfl (by decide) rfl rfl (show 1 ≤ 8 by decide) dL_law_1493 ?_
  exact k_icmpT dL_law_1496 rfl K
theorem law_46 (hF : 2000000 ≤ F) (hR : R μ) (h31 : sL < 2147483648) (hi : i + 6 ≤ sL) : ∃ ξ, R ξ ∧ ∀ o, GL sb sL sx g 1652 i [] ξ o → GL sb sL sx g 1501 i [] μ o := by
  obtain ⟨x, ν, ξ, hx, hm, hr⟩ := op_dozes hR hF (sx (i + 1)) (sx (i + 2))
  refine ⟨ξ, hr, fun o K => ?_⟩
  refine k_aload_n dL_law_1501 2 rfl ?_
  refine k_aload_n dL_law_1502 1 rfl ?_
  refine k_iload_n dL_law_1503 0 rfl ?_
  refine k_iconst (v := nI 1) dL_law_1504 rfl ?_
  refine k_iadd dL_law_1505 ?_
  rw [nI_add]
  refine k_sld h31 (by omega) dL_law_1506 ?_
  refine k_aload_n dL_law_1507 1 rfl ?_
  refine k_iload_n dL_law_1508 0 rfl ?_
  refine k_iconst (v := nI 2) dL_law_1509 rfl ?_
  refine k_iadd dL_law_1510 ?_
  rw [nI_add]
  refine k_sld h31 (by omega) dL_law_1511 ?_
  refine k_callV (r2 := (x, ν)) (cv2 := cvZ) (b := 0) (ci := 10) (w := 18) [.int (sx (i + 1)), .int (sx (i + 2))] [] mw_L_211 (by have q := ok_X11_dozes g F (sx (i + 1)) (sx (i + 2)) μ; rw [hx] at q; exact q) (by decide) rfl (by decide) rfl rfl (by decide) dL_law_1512 ?_
  refine k_aload_n dL_law_1515 3 rfl ?_
  refine k_aload_n dL_law_1516 1 rfl ?_
  refine k_iload_n dL_law_1517 0 rfl ?_
  refine k_iconst (v := nI 1) dL_law_1518 rfl ?_
  refine k_iadd dL_law_1519 ?_
  rw [nI_add]
  refine k_sld h31 (by omega) dL_law_1520 ?_
  refine k_aload_n dL_law_1521 1 rfl ?_
  refine k_iload_n dL_law_1522 0 rfl ?_
  refine k_iconst (v := nI 2) dL_law_1523 rfl ?_
  refine k_iadd dL_law_1524 ?_
  rw [nI_add]
  refine k_sld h31 (by omega) dL_law_1525 ?_
  refine k_callV (r2 := (x, ξ)) (cv2 := cvZ) (b := 141) (ci := 11) (w := 49) [.int (sx (i + 1)), .int (sx (i + 2))] [.int (bI x)] mw_L_214 (by have q := ok_X12_dozes g F (sx (i + 1)) (sx (i + 2)) ν; rw [hm] at q; exact q) (by decide) rfl (by decide) rfl rfl (show 1 ≤ 8 by decide) dL_law_1526 ?_
  exact k_icmpT dL_law_1529 rfl K
theorem law_47 (hF : 2000000 ≤ F) (hR : R μ) (h31 : sL < 2147483648) (hi : i + 6 ≤ sL) : ∃ ξ, R ξ ∧ ∀ o, GL sb sL sx g 1652 i [] ξ o → GL sb sL sx g 1534 i [] μ o := by
  obtain ⟨x, ν, ξ, hx, hm, hr⟩ := op_shame hR hF 
  refine ⟨ξ, hr, fun o K => ?_⟩
  refine k_aload_n dL_law_1534 2 rfl ?_
  refine k_callV (r2 := (x, ν)) (cv2 := cvZ) (b := 0) (ci := 10) (w := 18) [] [] mw_L_215 (by have q := ok_X11_shame g F μ; rw [hx] at q; exact q) (by decide) rfl (by decide) rfl rfl (by decide) dL_law_1535 ?_
  refine k_aload_n dL_law_1538 3 rfl ?_
  refine k_callV (r2 := (x, ξ)) (cv2 := cvZ) (b := 141) (ci := 11) (w := 49) [] [.int (bI x)] mw_L_219 (by have q := ok_X12_shame g F ν; rw [hm] at q; exact q) (by decide) rfl (by decide) rfl rfl (show 1 ≤ 8 by decide) dL_law_1539 ?_
  exact k_icmpT dL_law_1542 rfl K
theorem law_48 (hF : 2000000 ≤ F) (hR : R μ) (h31 : sL < 2147483648) (hi : i + 6 ≤ sL) : ∃ ξ, R ξ ∧ ∀ o, GL sb sL sx g 1652 i [] ξ o → GL sb sL sx g 1547 i [] μ o := by
  obtain ⟨x, ν, ξ, hx, hm, hr⟩ := op_live hR hF (sx (i + 1))
  refine ⟨ξ, hr, fun o K => ?_⟩
  refine k_aload_n dL_law_1547 2 rfl ?_
  refine k_aload_n dL_law_1548 1 rfl ?_
  refine k_iload_n dL_law_1549 0 rfl ?_
  refine k_iconst (v := nI 1) dL_law_1550 rfl ?_
  refine k_iadd dL_law_1551 ?_
  rw [nI_add]
  refine k_sld h31 (by omega) dL_law_1552 ?_
  refine k_callV (r2 := (x, ν)) (cv2 := cvI) (b := 0) (ci := 10) (w := 18) [.int (sx (i + 1))] [] mw_L_220 (by have q := ok_X11_live g F (sx (i + 1)) μ; rw [hx] at q; exact q) (by decide) rfl (by decide) rfl rfl (by decide) dL_law_1553 ?_
  refine k_aload_n dL_law_1556 3 rfl ?_
  refine k_aload_n dL_law_1557 1 rfl ?_
  refine k_iload_n dL_law_1558 0 rfl ?_
  refine k_iconst (v := nI 1) dL_law_1559 rfl ?_
  refine k_iadd dL_law_1560 ?_
  rw [nI_add]
  refine k_sld h31 (by omega) dL_law_1561 ?_
  refine k_callV (r2 := (x, ξ)) (cv2 := cvI) (b := 141) (ci := 11) (w := 49) [.int (sx (i + 1))] [.int x] mw_L_223 (by have q := ok_X12_live g F (sx (i + 1)) ν; rw [hm] at q; exact q) (by decide) rfl (by decide) rfl rfl (show 1 ≤ 8 by decide) dL_law_1562 ?_
  exact k_icmpT dL_law_1565 rfl K
theorem law_49 (hF : 2000000 ≤ F) (hR : R μ) (h31 : sL < 2147483648) (hi : i + 6 ≤ sL) : ∃ ξ, R ξ ∧ ∀ o, GL sb sL sx g 1652 i [] ξ o → GL sb sL sx g 1570 i [] μ o := by
  obtain ⟨x, ν, ξ, hx, hm, hr⟩ := op_lived hR (sx (i + 1))
  refine ⟨ξ, hr, fun o K => ?_⟩
  refine k_aload_n dL_law_1570 2 rfl ?_
  refine k_aload_n dL_law_1571 1 rfl ?_
  refine k_iload_n dL_law_1572 0 rfl ?_
  refine k_iconst (v := nI 1) dL_law_1573 rfl ?_
  refine k_iadd dL_law_1574 ?_
  rw [nI_add]
  refine k_sld h31 (by omega) dL_law_1575 ?_
  refine k_callV (r2 := (x, ν)) (cv2 := cvI) (b := 0) (ci := 10) (w := 18) [.int (sx (i + 1))] [] mw_L_224 (by have q := ok_X11_lived g (sx (i + 1)) μ; rw [hx] at q; exact q) (by decide) rfl (by decide) rfl rfl (by decide) dL_law_1576 ?_
  refine k_aload_n dL_law_1579 3 rfl ?_
  refine k_aload_n dL_law_1580 1 rfl ?_
  refine k_iload_n dL_law_1581 0 rfl ?_
  refine k_iconst (v := nI 1) dL_law_1582 rfl ?_
  refine k_iadd dL_law_1583 ?_
  rw [nI_add]
  refine k_sld h31 (by omega) dL_law_1584 ?_
  refine k_callV (r2 := (x, ξ)) (cv2 := cvI) (b := 141) (ci := 11) (w := 49) [.int (sx (i + 1))] [.int x] mw_L_227 (by have q := ok_X12_lived g (sx (i + 1)) ν; rw [hm] at q; exact q) (by decide) rfl (by decide) rfl rfl (show 1 ≤ 8 by decide) dL_law_1585 ?_
  exact k_icmpT dL_law_1588 rfl K
theorem law_50 (hF : 2000000 ≤ F) (hR : R μ) (h31 : sL < 2147483648) (hi : i + 6 ≤ sL) : ∃ ξ, R ξ ∧ ∀ o, GL sb sL sx g 1652 i [] ξ o → GL sb sL sx g 1593 i [] μ o := by
  obtain ⟨x, ν, ξ, hx, hm, hr⟩ := op_mean hR hF (sx (i + 1)) (sx (i + 2))
  refine ⟨ξ, hr, fun o K => ?_⟩
  refine k_aload_n dL_law_1593 2 rfl ?_
  refine k_aload_n dL_law_1594 1 rfl ?_
  refine k_iload_n dL_law_1595 0 rfl ?_
  refine k_iconst (v := nI 1) dL_law_1596 rfl ?_
  refine k_iadd dL_law_1597 ?_
  rw [nI_add]
  refine k_sld h31 (by omega) dL_law_1598 ?_
  refine k_aload_n dL_law_1599 1 rfl ?_
  refine k_iload_n dL_law_1600 0 rfl ?_
  refine k_iconst (v := nI 2) dL_law_1601 rfl ?_
  refine k_iadd dL_law_1602 ?_
  rw [nI_add]
  refine k_sld h31 (by omega) dL_law_1603 ?_
  refine k_callV (r2 := (x, ν)) (cv2 := cvZ) (b := 0) (ci := 10) (w := 18) [.int (sx (i + 1)), .int (sx (i + 2))] [] mw_L_228 (by have q := ok_X11_mean g F (sx (i + 1)) (sx (i + 2)) μ; rw [hx] at q; exact q) (by decide) rfl (by decide) rfl rfl (by decide) dL_law_1604 ?_
  refine k_aload_n dL_law_1607 3 rfl ?_
  refine k_aload_n dL_law_1608 1 rfl ?_
  refine k_iload_n dL_law_1609 0 rfl ?_
  refine k_iconst (v := nI 1) dL_law_1610 rfl ?_
  refine k_iadd dL_law_1611 ?_
  rw [nI_add]
  refine k_sld h31 (by omega) dL_law_1612 ?_
  refine k_aload_n dL_law_1613 1 rfl ?_
  refine k_iload_n dL_law_1614 0 rfl ?_
  refine k_iconst (v := nI 2) dL_law_1615 rfl ?_
  refine k_iadd dL_law_1616 ?_
  rw [nI_add]
  refine k_sld h31 (by omega) dL_law_1617 ?_
  refine k_callV (r2 := (x, ξ)) (cv2 := cvZ) (b := 141) (ci := 11) (w := 49) [.int (sx (i + 1)), .int (sx (i + 2))] [.int (bI x)] mw_L_231 (by have q := ok_X12_mean g F (sx (i + 1)) (sx (i + 2)) ν; rw [hm] at q; exact q) (by decide) rfl (by decide) rfl rfl (show 1 ≤ 8 by decide) dL_law_1618 ?_
  exact k_icmpT dL_law_1621 rfl K
theorem law_51 (hF : 2000000 ≤ F) (hR : R μ) (h31 : sL < 2147483648) (hi : i + 6 ≤ sL) : ∃ ξ, R ξ ∧ ∀ o, GL sb sL sx g 1652 i [] ξ o → GL sb sL sx g 1626 i [] μ o := by
  obtain ⟨x, ν, ξ, hx, hm, hr⟩ := op_mark hR hF 
  refine ⟨ξ, hr, fun o K => ?_⟩
  refine k_aload_n dL_law_1626 2 rfl ?_
  refine k_callV (r2 := (x, ν)) (cv2 := cvI) (b := 0) (ci := 10) (w := 18) [] [] mw_L_232 (by have q := ok_X11_mark g μ; rw [hx] at q; exact q) (by decide) rfl (by decide) rfl rfl (by decide) dL_law_1627 ?_
  refine k_aload_n dL_law_1630 3 rfl ?_
  refine k_callV (r2 := (x, ξ)) (cv2 := cvI) (b := 141) (ci := 11) (w := 49) [] [.int x] mw_L_235 (by have q := ok_X12_mark g F ν; rw [hm] at q; exact q) (by decide) rfl (by decide) rfl rfl (show 1 ≤ 8 by decide) dL_law_1631 ?_
  exact k_icmpT dL_law_1634 rfl K
theorem law_52 (hF : 2000000 ≤ F) (hR : R μ) (h31 : sL < 2147483648) (hi : i + 6 ≤ sL) : ∃ ξ, R ξ ∧ ∀ o, GL sb sL sx g 1652 i [] ξ o → GL sb sL sx g 1639 i [] μ o := by
  obtain ⟨x, ν, ξ, hx, hm, hr⟩ := op_back hR hF 
  refine ⟨ξ, hr, fun o K => ?_⟩
  refine k_aload_n dL_law_1639 2 rfl ?_
  refine k_callV (r2 := (x, ν)) (cv2 := cvI) (b := 0) (ci := 10) (w := 18) [] [] mw_L_236 (by have q := ok_X11_back g μ; rw [hx] at q; exact q) (by decide) rfl (by decide) rfl rfl (by decide) dL_law_1640 ?_
  refine k_aload_n dL_law_1643 3 rfl ?_
  refine k_callV (r2 := (x, ξ)) (cv2 := cvI) (b := 141) (ci := 11) (w := 49) [] [.int x] mw_L_239 (by have q := ok_X12_back g F ν; rw [hm] at q; exact q) (by decide) rfl (by decide) rfl rfl (show 1 ≤ 8 by decide) dL_law_1644 ?_
  exact k_icmpT dL_law_1647 rfl K
end LAW
