/-! ===== the law: one call a theorem ===== -/
set_option maxHeartbeats 4000000 in
theorem lk_office {G : hG} {X : hX} {d b L : Nat} {xs : Nat → Int32} {ret : Option FieldType} (hdd : 200 ≤ d) (C : Cx G X d cL_law 8 RL ret) (Z : Cz G X) (S : Cs G X b L xs) {i : Int32} (hi : ∀ v : Int32, 0 ≤ v.toInt → v.toInt ≤ 5 → hIn (i + v) L) {m : hM} (h : IV m) {E : Option (Unit × hM)} (kk : ∀ m2, IV m2 → Rf vU G X 1869 (lwL G b i) [] m2 E) : Rf vU G X 220 (lwL G b i) [] m E := by
  obtain ⟨r, m1, m2, e1, e2, h2⟩ := ok_office (fu := 4000) (by omega) h (xs (i + 1).toNatClampNeg) (xs (i + 2).toNatClampNeg) (xs (i + 3).toNatClampNeg) (xs (i + 4).toNatClampNeg)
  refine rf_aload_n C (n := 221) (q := 3) (x := 0) dL_law_220 rfl rfl rfl ?_
  refine rl_arg C S (n := 227) (v := 1) dL_law_221 dL_law_222 dL_law_224 dL_law_225 dL_law_226 rfl rfl rfl rfl rfl (by decide) (hi 1 (by decide) (by decide)) ?_
  refine rl_arg C S (n := 233) (v := 2) dL_law_227 dL_law_228 dL_law_230 dL_law_231 dL_law_232 rfl rfl rfl rfl rfl (by decide) (hi 2 (by decide) (by decide)) ?_
  refine rl_arg C S (n := 239) (v := 3) dL_law_233 dL_law_234 dL_law_236 dL_law_237 dL_law_238 rfl rfl rfl rfl rfl (by decide) (hi 3 (by decide) (by decide)) ?_
  refine rl_arg C S (n := 245) (v := 4) dL_law_239 dL_law_240 dL_law_242 dL_law_243 dL_law_244 rfl rfl rfl rfl rfl (by decide) (hi 4 (by decide) (by decide)) ?_
  refine rl_callVi C (n := 248) (c_X10_office G 4000 _ _ _ _ _) e1 lwc_26 ly_0 rfl ⟨by omega, by decide⟩ rfl (Nat.le_of_ble_eq_true rfl) rfl dL_law_245 rfl ?_
  refine rf_aload_n C (n := 249) (q := 2) (x := 96) dL_law_248 rfl rfl rfl ?_
  refine rl_arg C S (n := 255) (v := 1) dL_law_249 dL_law_250 dL_law_252 dL_law_253 dL_law_254 rfl rfl rfl rfl rfl (by decide) (hi 1 (by decide) (by decide)) ?_
  refine rl_arg C S (n := 261) (v := 2) dL_law_255 dL_law_256 dL_law_258 dL_law_259 dL_law_260 rfl rfl rfl rfl rfl (by decide) (hi 2 (by decide) (by decide)) ?_
  refine rl_arg C S (n := 267) (v := 3) dL_law_261 dL_law_262 dL_law_264 dL_law_265 dL_law_266 rfl rfl rfl rfl rfl (by decide) (hi 3 (by decide) (by decide)) ?_
  refine rl_arg C S (n := 273) (v := 4) dL_law_267 dL_law_268 dL_law_270 dL_law_271 dL_law_272 rfl rfl rfl rfl rfl (by decide) (hi 4 (by decide) (by decide)) ?_
  refine rl_callVi C (n := 276) (c_X11_office G 4000 _ _ _ _ _) e2 lwc_30 ly_96 rfl ⟨by omega, by decide⟩ rfl (Nat.le_of_ble_eq_true rfl) rfl dL_law_273 rfl ?_
  refine rl_eqT C (n := 1869) dL_law_276 (by decide) ?_
  exact kk m2 h2
set_option maxHeartbeats 4000000 in
theorem lk_clock {G : hG} {X : hX} {d b L : Nat} {xs : Nat → Int32} {ret : Option FieldType} (hdd : 200 ≤ d) (C : Cx G X d cL_law 8 RL ret) (Z : Cz G X) (S : Cs G X b L xs) {i : Int32} (hi : ∀ v : Int32, 0 ≤ v.toInt → v.toInt ≤ 5 → hIn (i + v) L) {m : hM} (h : IV m) {E : Option (Unit × hM)} (kk : ∀ m2, IV m2 → Rf vU G X 1869 (lwL G b i) [] m2 E) : Rf vU G X 281 (lwL G b i) [] m E := by
  obtain ⟨r, m1, m2, e1, e2, h2⟩ := ok_clock (fu := 4000) (by omega) h (xs (i + 1).toNatClampNeg) (xs (i + 2).toNatClampNeg) (xs (i + 3).toNatClampNeg)
  refine rf_aload_n C (n := 282) (q := 3) (x := 0) dL_law_281 rfl rfl rfl ?_
  refine rl_arg C S (n := 288) (v := 1) dL_law_282 dL_law_283 dL_law_285 dL_law_286 dL_law_287 rfl rfl rfl rfl rfl (by decide) (hi 1 (by decide) (by decide)) ?_
  refine rl_arg C S (n := 294) (v := 2) dL_law_288 dL_law_289 dL_law_291 dL_law_292 dL_law_293 rfl rfl rfl rfl rfl (by decide) (hi 2 (by decide) (by decide)) ?_
  refine rl_arg C S (n := 300) (v := 3) dL_law_294 dL_law_295 dL_law_297 dL_law_298 dL_law_299 rfl rfl rfl rfl rfl (by decide) (hi 3 (by decide) (by decide)) ?_
  refine rl_callVi C (n := 303) (c_X10_clock G 4000 _ _ _ _) e1 lwc_31 ly_0 rfl ⟨by omega, by decide⟩ rfl (Nat.le_of_ble_eq_true rfl) rfl dL_law_300 rfl ?_
  refine rf_aload_n C (n := 304) (q := 2) (x := 96) dL_law_303 rfl rfl rfl ?_
  refine rl_arg C S (n := 310) (v := 1) dL_law_304 dL_law_305 dL_law_307 dL_law_308 dL_law_309 rfl rfl rfl rfl rfl (by decide) (hi 1 (by decide) (by decide)) ?_
  refine rl_arg C S (n := 316) (v := 2) dL_law_310 dL_law_311 dL_law_313 dL_law_314 dL_law_315 rfl rfl rfl rfl rfl (by decide) (hi 2 (by decide) (by decide)) ?_
  refine rl_arg C S (n := 322) (v := 3) dL_law_316 dL_law_317 dL_law_319 dL_law_320 dL_law_321 rfl rfl rfl rfl rfl (by decide) (hi 3 (by decide) (by decide)) ?_
  refine rl_callVi C (n := 325) (c_X11_clock G 4000 _ _ _ _) e2 lwc_35 ly_96 rfl ⟨by omega, by decide⟩ rfl (Nat.le_of_ble_eq_true rfl) rfl dL_law_322 rfl ?_
  refine rl_eqT C (n := 1869) dL_law_325 (by decide) ?_
  exact kk m2 h2
theorem lk_feast {G : hG} {X : hX} {d b L : Nat} {xs : Nat → Int32} {ret : Option FieldType} (hdd : 200 ≤ d) (C : Cx G X d cL_law 8 RL ret) (Z : Cz G X) (S : Cs G X b L xs) {i : Int32} (hi : ∀ v : Int32, 0 ≤ v.toInt → v.toInt ≤ 5 → hIn (i + v) L) {m : hM} (h : IV m) {E : Option (Unit × hM)} (kk : ∀ m2, IV m2 → Rf vU G X 1869 (lwL G b i) [] m2 E) : Rf vU G X 330 (lwL G b i) [] m E := by
  by_cases q : xs (i + 3).toNatClampNeg = 0
  · obtain ⟨r, m1, m2, e1, e2, h2⟩ := ok_feast (fu := 4000) (by omega) h (xs (i + 1).toNatClampNeg) (xs (i + 2).toNatClampNeg) (x3 := 0) (Or.inl rfl)
    refine rf_aload_n C (n := 331) (q := 3) (x := 0) dL_law_330 rfl rfl rfl ?_
    refine rl_arg C S (n := 337) (v := 1) dL_law_331 dL_law_332 dL_law_334 dL_law_335 dL_law_336 rfl rfl rfl rfl rfl (by decide) (hi 1 (by decide) (by decide)) ?_
    refine rl_arg C S (n := 343) (v := 2) dL_law_337 dL_law_338 dL_law_340 dL_law_341 dL_law_342 rfl rfl rfl rfl rfl (by decide) (hi 2 (by decide) (by decide)) ?_
    refine rl_arg C S (n := 349) (v := 3) dL_law_343 dL_law_344 dL_law_346 dL_law_347 dL_law_348 rfl rfl rfl rfl rfl (by decide) (hi 3 (by decide) (by decide)) ?_
    refine rl_ifT C (n := 356) q dL_law_349 (by decide) ?_
    refine rf_iconst C (n := 357) (v := 0) dL_law_356 rfl (by decide) ?_
    refine rl_callVi C (n := 360) (c_X10_feast G 4000 _ _ _ _) e1 lwc_36 ly_0 rfl ⟨by omega, by decide⟩ rfl (Nat.le_of_ble_eq_true rfl) rfl dL_law_357 rfl ?_
    refine rf_aload_n C (n := 361) (q := 2) (x := 96) dL_law_360 rfl rfl rfl ?_
    refine rl_arg C S (n := 367) (v := 1) dL_law_361 dL_law_362 dL_law_364 dL_law_365 dL_law_366 rfl rfl rfl rfl rfl (by decide) (hi 1 (by decide) (by decide)) ?_
    refine rl_arg C S (n := 373) (v := 2) dL_law_367 dL_law_368 dL_law_370 dL_law_371 dL_law_372 rfl rfl rfl rfl rfl (by decide) (hi 2 (by decide) (by decide)) ?_
    refine rl_arg C S (n := 379) (v := 3) dL_law_373 dL_law_374 dL_law_376 dL_law_377 dL_law_378 rfl rfl rfl rfl rfl (by decide) (hi 3 (by decide) (by decide)) ?_
    refine rl_ifT C (n := 386) q dL_law_379 (by decide) ?_
    refine rf_iconst C (n := 387) (v := 0) dL_law_386 rfl (by decide) ?_
    refine rl_callVi C (n := 390) (c_X11_feast G 4000 _ _ _ _) e2 lwc_40 ly_96 rfl ⟨by omega, by decide⟩ rfl (Nat.le_of_ble_eq_true rfl) rfl dL_law_387 rfl ?_
    refine rl_eqT C (n := 1869) dL_law_390 (by decide) ?_
    exact kk m2 h2
  · obtain ⟨r, m1, m2, e1, e2, h2⟩ := ok_feast (fu := 4000) (by omega) h (xs (i + 1).toNatClampNeg) (xs (i + 2).toNatClampNeg) (x3 := 1) (Or.inr rfl)
    refine rf_aload_n C (n := 331) (q := 3) (x := 0) dL_law_330 rfl rfl rfl ?_
    refine rl_arg C S (n := 337) (v := 1) dL_law_331 dL_law_332 dL_law_334 dL_law_335 dL_law_336 rfl rfl rfl rfl rfl (by decide) (hi 1 (by decide) (by decide)) ?_
    refine rl_arg C S (n := 343) (v := 2) dL_law_337 dL_law_338 dL_law_340 dL_law_341 dL_law_342 rfl rfl rfl rfl rfl (by decide) (hi 2 (by decide) (by decide)) ?_
    refine rl_arg C S (n := 349) (v := 3) dL_law_343 dL_law_344 dL_law_346 dL_law_347 dL_law_348 rfl rfl rfl rfl rfl (by decide) (hi 3 (by decide) (by decide)) ?_
    refine rl_ifF C (n := 352) (tgt := 356) q dL_law_349 (by decide) rfl ?_
    refine rf_iconst C (n := 353) (v := 1) dL_law_352 rfl (by decide) ?_
    refine rf_goto C (n := 357) dL_law_353 (by decide) ?_
    refine rl_callVi C (n := 360) (c_X10_feast G 4000 _ _ _ _) e1 lwc_36 ly_0 rfl ⟨by omega, by decide⟩ rfl (Nat.le_of_ble_eq_true rfl) rfl dL_law_357 rfl ?_
    refine rf_aload_n C (n := 361) (q := 2) (x := 96) dL_law_360 rfl rfl rfl ?_
    refine rl_arg C S (n := 367) (v := 1) dL_law_361 dL_law_362 dL_law_364 dL_law_365 dL_law_366 rfl rfl rfl rfl rfl (by decide) (hi 1 (by decide) (by decide)) ?_
    refine rl_arg C S (n := 373) (v := 2) dL_law_367 dL_law_368 dL_law_370 dL_law_371 dL_law_372 rfl rfl rfl rfl rfl (by decide) (hi 2 (by decide) (by decide)) ?_
    refine rl_arg C S (n := 379) (v := 3) dL_law_373 dL_law_374 dL_law_376 dL_law_377 dL_law_378 rfl rfl rfl rfl rfl (by decide) (hi 3 (by decide) (by decide)) ?_
    refine rl_ifF C (n := 382) (tgt := 386) q dL_law_379 (by decide) rfl ?_
    refine rf_iconst C (n := 383) (v := 1) dL_law_382 rfl (by decide) ?_
    refine rf_goto C (n := 387) dL_law_383 (by decide) ?_
    refine rl_callVi C (n := 390) (c_X11_feast G 4000 _ _ _ _) e2 lwc_40 ly_96 rfl ⟨by omega, by decide⟩ rfl (Nat.le_of_ble_eq_true rfl) rfl dL_law_387 rfl ?_
    refine rl_eqT C (n := 1869) dL_law_390 (by decide) ?_
    exact kk m2 h2
set_option maxHeartbeats 4000000 in
theorem lk_know {G : hG} {X : hX} {d b L : Nat} {xs : Nat → Int32} {ret : Option FieldType} (hdd : 200 ≤ d) (C : Cx G X d cL_law 8 RL ret) (Z : Cz G X) (S : Cs G X b L xs) {i : Int32} (hi : ∀ v : Int32, 0 ≤ v.toInt → v.toInt ≤ 5 → hIn (i + v) L) {m : hM} (h : IV m) {E : Option (Unit × hM)} (kk : ∀ m2, IV m2 → Rf vU G X 1869 (lwL G b i) [] m2 E) : Rf vU G X 395 (lwL G b i) [] m E := by
  obtain ⟨r, m1, m2, e1, e2, h2⟩ := ok_know (fu := 4000) h (xs (i + 1).toNatClampNeg) (xs (i + 2).toNatClampNeg) (xs (i + 3).toNatClampNeg)
  refine rf_aload_n C (n := 396) (q := 3) (x := 0) dL_law_395 rfl rfl rfl ?_
  refine rl_arg C S (n := 402) (v := 1) dL_law_396 dL_law_397 dL_law_399 dL_law_400 dL_law_401 rfl rfl rfl rfl rfl (by decide) (hi 1 (by decide) (by decide)) ?_
  refine rl_arg C S (n := 408) (v := 2) dL_law_402 dL_law_403 dL_law_405 dL_law_406 dL_law_407 rfl rfl rfl rfl rfl (by decide) (hi 2 (by decide) (by decide)) ?_
  refine rl_arg C S (n := 414) (v := 3) dL_law_408 dL_law_409 dL_law_411 dL_law_412 dL_law_413 rfl rfl rfl rfl rfl (by decide) (hi 3 (by decide) (by decide)) ?_
  refine rl_callVi C (n := 417) (c_X10_know G 4000 _ _ _ _) e1 lwc_41 ly_0 rfl ⟨by omega, by decide⟩ rfl (Nat.le_of_ble_eq_true rfl) rfl dL_law_414 rfl ?_
  refine rf_aload_n C (n := 418) (q := 2) (x := 96) dL_law_417 rfl rfl rfl ?_
  refine rl_arg C S (n := 424) (v := 1) dL_law_418 dL_law_419 dL_law_421 dL_law_422 dL_law_423 rfl rfl rfl rfl rfl (by decide) (hi 1 (by decide) (by decide)) ?_
  refine rl_arg C S (n := 430) (v := 2) dL_law_424 dL_law_425 dL_law_427 dL_law_428 dL_law_429 rfl rfl rfl rfl rfl (by decide) (hi 2 (by decide) (by decide)) ?_
  refine rl_arg C S (n := 436) (v := 3) dL_law_430 dL_law_431 dL_law_433 dL_law_434 dL_law_435 rfl rfl rfl rfl rfl (by decide) (hi 3 (by decide) (by decide)) ?_
  refine rl_callVi C (n := 439) (c_X11_know G 4000 _ _ _ _) e2 lwc_45 ly_96 rfl ⟨by omega, by decide⟩ rfl (Nat.le_of_ble_eq_true rfl) rfl dL_law_436 rfl ?_
  refine rl_eqT C (n := 1869) dL_law_439 (by decide) ?_
  exact kk m2 h2
set_option maxHeartbeats 4000000 in
theorem lk_sheet {G : hG} {X : hX} {d b L : Nat} {xs : Nat → Int32} {ret : Option FieldType} (hdd : 200 ≤ d) (C : Cx G X d cL_law 8 RL ret) (Z : Cz G X) (S : Cs G X b L xs) {i : Int32} (hi : ∀ v : Int32, 0 ≤ v.toInt → v.toInt ≤ 5 → hIn (i + v) L) {m : hM} (h : IV m) {E : Option (Unit × hM)} (kk : ∀ m2, IV m2 → Rf vU G X 1869 (lwL G b i) [] m2 E) : Rf vU G X 444 (lwL G b i) [] m E := by
  obtain ⟨r, m1, m2, e1, e2, h2⟩ := ok_sheet (fu := 4000) (by omega) h (xs (i + 1).toNatClampNeg) (xs (i + 2).toNatClampNeg) (xs (i + 3).toNatClampNeg) (xs (i + 4).toNatClampNeg) (xs (i + 5).toNatClampNeg)
  refine rf_aload_n C (n := 445) (q := 3) (x := 0) dL_law_444 rfl rfl rfl ?_
  refine rl_arg C S (n := 451) (v := 1) dL_law_445 dL_law_446 dL_law_448 dL_law_449 dL_law_450 rfl rfl rfl rfl rfl (by decide) (hi 1 (by decide) (by decide)) ?_
  refine rl_arg C S (n := 457) (v := 2) dL_law_451 dL_law_452 dL_law_454 dL_law_455 dL_law_456 rfl rfl rfl rfl rfl (by decide) (hi 2 (by decide) (by decide)) ?_
  refine rl_arg C S (n := 463) (v := 3) dL_law_457 dL_law_458 dL_law_460 dL_law_461 dL_law_462 rfl rfl rfl rfl rfl (by decide) (hi 3 (by decide) (by decide)) ?_
  refine rl_arg C S (n := 469) (v := 4) dL_law_463 dL_law_464 dL_law_466 dL_law_467 dL_law_468 rfl rfl rfl rfl rfl (by decide) (hi 4 (by decide) (by decide)) ?_
  refine rl_arg C S (n := 475) (v := 5) dL_law_469 dL_law_470 dL_law_472 dL_law_473 dL_law_474 rfl rfl rfl rfl rfl (by decide) (hi 5 (by decide) (by decide)) ?_
  refine rl_callVi C (n := 478) (c_X10_sheet G 4000 _ _ _ _ _ _) e1 lwc_46 ly_0 rfl ⟨by omega, by decide⟩ rfl (Nat.le_of_ble_eq_true rfl) rfl dL_law_475 rfl ?_
  refine rf_aload_n C (n := 479) (q := 2) (x := 96) dL_law_478 rfl rfl rfl ?_
  refine rl_arg C S (n := 485) (v := 1) dL_law_479 dL_law_480 dL_law_482 dL_law_483 dL_law_484 rfl rfl rfl rfl rfl (by decide) (hi 1 (by decide) (by decide)) ?_
  refine rl_arg C S (n := 491) (v := 2) dL_law_485 dL_law_486 dL_law_488 dL_law_489 dL_law_490 rfl rfl rfl rfl rfl (by decide) (hi 2 (by decide) (by decide)) ?_
  refine rl_arg C S (n := 497) (v := 3) dL_law_491 dL_law_492 dL_law_494 dL_law_495 dL_law_496 rfl rfl rfl rfl rfl (by decide) (hi 3 (by decide) (by decide)) ?_
  refine rl_arg C S (n := 503) (v := 4) dL_law_497 dL_law_498 dL_law_500 dL_law_501 dL_law_502 rfl rfl rfl rfl rfl (by decide) (hi 4 (by decide) (by decide)) ?_
  refine rl_arg C S (n := 509) (v := 5) dL_law_503 dL_law_504 dL_law_506 dL_law_507 dL_law_508 rfl rfl rfl rfl rfl (by decide) (hi 5 (by decide) (by decide)) ?_
  refine rl_callVi C (n := 512) (c_X11_sheet G 4000 _ _ _ _ _ _) e2 lwc_50 ly_96 rfl ⟨by omega, by decide⟩ rfl (Nat.le_of_ble_eq_true rfl) rfl dL_law_509 rfl ?_
  refine rl_eqT C (n := 1869) dL_law_512 (by decide) ?_
  exact kk m2 h2
set_option maxHeartbeats 4000000 in
theorem lk_set {G : hG} {X : hX} {d b L : Nat} {xs : Nat → Int32} {ret : Option FieldType} (hdd : 200 ≤ d) (C : Cx G X d cL_law 8 RL ret) (Z : Cz G X) (S : Cs G X b L xs) {i : Int32} (hi : ∀ v : Int32, 0 ≤ v.toInt → v.toInt ≤ 5 → hIn (i + v) L) {m : hM} (h : IV m) {E : Option (Unit × hM)} (kk : ∀ m2, IV m2 → Rf vU G X 1869 (lwL G b i) [] m2 E) : Rf vU G X 517 (lwL G b i) [] m E := by
  obtain ⟨r, m1, m2, e1, e2, h2⟩ := ok_set (fu := 4000) h (xs (i + 1).toNatClampNeg) (xs (i + 2).toNatClampNeg)
  refine rf_aload_n C (n := 518) (q := 3) (x := 0) dL_law_517 rfl rfl rfl ?_
  refine rl_arg C S (n := 524) (v := 1) dL_law_518 dL_law_519 dL_law_521 dL_law_522 dL_law_523 rfl rfl rfl rfl rfl (by decide) (hi 1 (by decide) (by decide)) ?_
  refine rl_arg C S (n := 530) (v := 2) dL_law_524 dL_law_525 dL_law_527 dL_law_528 dL_law_529 rfl rfl rfl rfl rfl (by decide) (hi 2 (by decide) (by decide)) ?_
  refine rl_callVi C (n := 533) (c_X10_set G 4000 _ _ _) e1 lwc_51 ly_0 rfl ⟨by omega, by decide⟩ rfl (Nat.le_of_ble_eq_true rfl) rfl dL_law_530 rfl ?_
  refine rf_aload_n C (n := 534) (q := 2) (x := 96) dL_law_533 rfl rfl rfl ?_
  refine rl_arg C S (n := 540) (v := 1) dL_law_534 dL_law_535 dL_law_537 dL_law_538 dL_law_539 rfl rfl rfl rfl rfl (by decide) (hi 1 (by decide) (by decide)) ?_
  refine rl_arg C S (n := 546) (v := 2) dL_law_540 dL_law_541 dL_law_543 dL_law_544 dL_law_545 rfl rfl rfl rfl rfl (by decide) (hi 2 (by decide) (by decide)) ?_
  refine rl_callVi C (n := 549) (c_X11_set G 4000 _ _ _) e2 lwc_54 ly_96 rfl ⟨by omega, by decide⟩ rfl (Nat.le_of_ble_eq_true rfl) rfl dL_law_546 rfl ?_
  refine rl_eqT C (n := 1869) dL_law_549 (by decide) ?_
  exact kk m2 h2
set_option maxHeartbeats 4000000 in
theorem lk_open {G : hG} {X : hX} {d b L : Nat} {xs : Nat → Int32} {ret : Option FieldType} (hdd : 200 ≤ d) (C : Cx G X d cL_law 8 RL ret) (Z : Cz G X) (S : Cs G X b L xs) {i : Int32} (hi : ∀ v : Int32, 0 ≤ v.toInt → v.toInt ≤ 5 → hIn (i + v) L) {m : hM} (h : IV m) {E : Option (Unit × hM)} (kk : ∀ m2, IV m2 → Rf vU G X 1869 (lwL G b i) [] m2 E) : Rf vU G X 554 (lwL G b i) [] m E := by
  obtain ⟨r, m1, m2, e1, e2, h2⟩ := ok_open (fu := 4000) h (xs (i + 1).toNatClampNeg) (xs (i + 2).toNatClampNeg)
  refine rf_aload_n C (n := 555) (q := 3) (x := 0) dL_law_554 rfl rfl rfl ?_
  refine rl_arg C S (n := 561) (v := 1) dL_law_555 dL_law_556 dL_law_558 dL_law_559 dL_law_560 rfl rfl rfl rfl rfl (by decide) (hi 1 (by decide) (by decide)) ?_
  refine rl_arg C S (n := 567) (v := 2) dL_law_561 dL_law_562 dL_law_564 dL_law_565 dL_law_566 rfl rfl rfl rfl rfl (by decide) (hi 2 (by decide) (by decide)) ?_
  refine rl_callVi C (n := 570) (c_X10_open G 4000 _ _ _) e1 lwc_55 ly_0 rfl ⟨by omega, by decide⟩ rfl (Nat.le_of_ble_eq_true rfl) rfl dL_law_567 rfl ?_
  refine rf_aload_n C (n := 571) (q := 2) (x := 96) dL_law_570 rfl rfl rfl ?_
  refine rl_arg C S (n := 577) (v := 1) dL_law_571 dL_law_572 dL_law_574 dL_law_575 dL_law_576 rfl rfl rfl rfl rfl (by decide) (hi 1 (by decide) (by decide)) ?_
  refine rl_arg C S (n := 583) (v := 2) dL_law_577 dL_law_578 dL_law_580 dL_law_581 dL_law_582 rfl rfl rfl rfl rfl (by decide) (hi 2 (by decide) (by decide)) ?_
  refine rl_callVi C (n := 586) (c_X11_open G 4000 _ _ _) e2 lwc_58 ly_96 rfl ⟨by omega, by decide⟩ rfl (Nat.le_of_ble_eq_true rfl) rfl dL_law_583 rfl ?_
  refine rl_eqT C (n := 1869) dL_law_586 (by decide) ?_
  exact kk m2 h2
set_option maxHeartbeats 4000000 in
theorem lk_overlap {G : hG} {X : hX} {d b L : Nat} {xs : Nat → Int32} {ret : Option FieldType} (hdd : 200 ≤ d) (C : Cx G X d cL_law 8 RL ret) (Z : Cz G X) (S : Cs G X b L xs) {i : Int32} (hi : ∀ v : Int32, 0 ≤ v.toInt → v.toInt ≤ 5 → hIn (i + v) L) {m : hM} (h : IV m) {E : Option (Unit × hM)} (kk : ∀ m2, IV m2 → Rf vU G X 1869 (lwL G b i) [] m2 E) : Rf vU G X 591 (lwL G b i) [] m E := by
  obtain ⟨r, m1, m2, e1, e2, h2⟩ := ok_overlap (fu := 4000) (by omega) h (xs (i + 1).toNatClampNeg) (xs (i + 2).toNatClampNeg) (xs (i + 3).toNatClampNeg)
  refine rf_aload_n C (n := 592) (q := 3) (x := 0) dL_law_591 rfl rfl rfl ?_
  refine rl_arg C S (n := 598) (v := 1) dL_law_592 dL_law_593 dL_law_595 dL_law_596 dL_law_597 rfl rfl rfl rfl rfl (by decide) (hi 1 (by decide) (by decide)) ?_
  refine rl_arg C S (n := 604) (v := 2) dL_law_598 dL_law_599 dL_law_601 dL_law_602 dL_law_603 rfl rfl rfl rfl rfl (by decide) (hi 2 (by decide) (by decide)) ?_
  refine rl_arg C S (n := 610) (v := 3) dL_law_604 dL_law_605 dL_law_607 dL_law_608 dL_law_609 rfl rfl rfl rfl rfl (by decide) (hi 3 (by decide) (by decide)) ?_
  refine rl_callVi C (n := 613) (c_X10_overlap G 4000 _ _ _ _) e1 lwc_59 ly_0 rfl ⟨by omega, by decide⟩ rfl (Nat.le_of_ble_eq_true rfl) rfl dL_law_610 rfl ?_
  refine rf_aload_n C (n := 614) (q := 2) (x := 96) dL_law_613 rfl rfl rfl ?_
  refine rl_arg C S (n := 620) (v := 1) dL_law_614 dL_law_615 dL_law_617 dL_law_618 dL_law_619 rfl rfl rfl rfl rfl (by decide) (hi 1 (by decide) (by decide)) ?_
  refine rl_arg C S (n := 626) (v := 2) dL_law_620 dL_law_621 dL_law_623 dL_law_624 dL_law_625 rfl rfl rfl rfl rfl (by decide) (hi 2 (by decide) (by decide)) ?_
  refine rl_arg C S (n := 632) (v := 3) dL_law_626 dL_law_627 dL_law_629 dL_law_630 dL_law_631 rfl rfl rfl rfl rfl (by decide) (hi 3 (by decide) (by decide)) ?_
  refine rl_callVi C (n := 635) (c_X11_overlap G 4000 _ _ _ _) e2 lwc_62 ly_96 rfl ⟨by omega, by decide⟩ rfl (Nat.le_of_ble_eq_true rfl) rfl dL_law_632 rfl ?_
  refine rl_eqT C (n := 1869) dL_law_635 (by decide) ?_
  exact kk m2 h2
set_option maxHeartbeats 4000000 in
theorem lk_loses {G : hG} {X : hX} {d b L : Nat} {xs : Nat → Int32} {ret : Option FieldType} (hdd : 200 ≤ d) (C : Cx G X d cL_law 8 RL ret) (Z : Cz G X) (S : Cs G X b L xs) {i : Int32} (hi : ∀ v : Int32, 0 ≤ v.toInt → v.toInt ≤ 5 → hIn (i + v) L) {m : hM} (h : IV m) {E : Option (Unit × hM)} (kk : ∀ m2, IV m2 → Rf vU G X 1869 (lwL G b i) [] m2 E) : Rf vU G X 640 (lwL G b i) [] m E := by
  obtain ⟨r, m1, m2, e1, e2, h2⟩ := ok_loses (fu := 4000) (by omega) h (xs (i + 1).toNatClampNeg) (xs (i + 2).toNatClampNeg) (xs (i + 3).toNatClampNeg)
  refine rf_aload_n C (n := 641) (q := 3) (x := 0) dL_law_640 rfl rfl rfl ?_
  refine rl_arg C S (n := 647) (v := 1) dL_law_641 dL_law_642 dL_law_644 dL_law_645 dL_law_646 rfl rfl rfl rfl rfl (by decide) (hi 1 (by decide) (by decide)) ?_
  refine rl_arg C S (n := 653) (v := 2) dL_law_647 dL_law_648 dL_law_650 dL_law_651 dL_law_652 rfl rfl rfl rfl rfl (by decide) (hi 2 (by decide) (by decide)) ?_
  refine rl_arg C S (n := 659) (v := 3) dL_law_653 dL_law_654 dL_law_656 dL_law_657 dL_law_658 rfl rfl rfl rfl rfl (by decide) (hi 3 (by decide) (by decide)) ?_
  refine rl_callVi C (n := 662) (c_X10_loses G 4000 _ _ _ _) e1 lwc_63 ly_0 rfl ⟨by omega, by decide⟩ rfl (Nat.le_of_ble_eq_true rfl) rfl dL_law_659 rfl ?_
  refine rf_aload_n C (n := 663) (q := 2) (x := 96) dL_law_662 rfl rfl rfl ?_
  refine rl_arg C S (n := 669) (v := 1) dL_law_663 dL_law_664 dL_law_666 dL_law_667 dL_law_668 rfl rfl rfl rfl rfl (by decide) (hi 1 (by decide) (by decide)) ?_
  refine rl_arg C S (n := 675) (v := 2) dL_law_669 dL_law_670 dL_law_672 dL_law_673 dL_law_674 rfl rfl rfl rfl rfl (by decide) (hi 2 (by decide) (by decide)) ?_
  refine rl_arg C S (n := 681) (v := 3) dL_law_675 dL_law_676 dL_law_678 dL_law_679 dL_law_680 rfl rfl rfl rfl rfl (by decide) (hi 3 (by decide) (by decide)) ?_
  refine rl_callVi C (n := 684) (c_X11_loses G 4000 _ _ _ _) e2 lwc_66 ly_96 rfl ⟨by omega, by decide⟩ rfl (Nat.le_of_ble_eq_true rfl) rfl dL_law_681 rfl ?_
  refine rl_eqT C (n := 1869) dL_law_684 (by decide) ?_
  exact kk m2 h2
set_option maxHeartbeats 4000000 in
theorem lk_dark {G : hG} {X : hX} {d b L : Nat} {xs : Nat → Int32} {ret : Option FieldType} (hdd : 200 ≤ d) (C : Cx G X d cL_law 8 RL ret) (Z : Cz G X) (S : Cs G X b L xs) {i : Int32} (hi : ∀ v : Int32, 0 ≤ v.toInt → v.toInt ≤ 5 → hIn (i + v) L) {m : hM} (h : IV m) {E : Option (Unit × hM)} (kk : ∀ m2, IV m2 → Rf vU G X 1869 (lwL G b i) [] m2 E) : Rf vU G X 689 (lwL G b i) [] m E := by
  obtain ⟨r, m1, m2, e1, e2, h2⟩ := ok_dark (fu := 4000) (by omega) h (xs (i + 1).toNatClampNeg) (xs (i + 2).toNatClampNeg)
  refine rf_aload_n C (n := 690) (q := 3) (x := 0) dL_law_689 rfl rfl rfl ?_
  refine rl_arg C S (n := 696) (v := 1) dL_law_690 dL_law_691 dL_law_693 dL_law_694 dL_law_695 rfl rfl rfl rfl rfl (by decide) (hi 1 (by decide) (by decide)) ?_
  refine rl_arg C S (n := 702) (v := 2) dL_law_696 dL_law_697 dL_law_699 dL_law_700 dL_law_701 rfl rfl rfl rfl rfl (by decide) (hi 2 (by decide) (by decide)) ?_
  refine rl_callVi C (n := 705) (c_X10_dark G 4000 _ _ _) e1 lwc_67 ly_0 rfl ⟨by omega, by decide⟩ rfl (Nat.le_of_ble_eq_true rfl) rfl dL_law_702 rfl ?_
  refine rf_aload_n C (n := 706) (q := 2) (x := 96) dL_law_705 rfl rfl rfl ?_
  refine rl_arg C S (n := 712) (v := 1) dL_law_706 dL_law_707 dL_law_709 dL_law_710 dL_law_711 rfl rfl rfl rfl rfl (by decide) (hi 1 (by decide) (by decide)) ?_
  refine rl_arg C S (n := 718) (v := 2) dL_law_712 dL_law_713 dL_law_715 dL_law_716 dL_law_717 rfl rfl rfl rfl rfl (by decide) (hi 2 (by decide) (by decide)) ?_
  refine rl_callVi C (n := 721) (c_X11_dark G 4000 _ _ _) e2 lwc_70 ly_96 rfl ⟨by omega, by decide⟩ rfl (Nat.le_of_ble_eq_true rfl) rfl dL_law_718 rfl ?_
  refine rl_eqT C (n := 1869) dL_law_721 (by decide) ?_
  exact kk m2 h2
set_option maxHeartbeats 4000000 in
theorem lk_piece {G : hG} {X : hX} {d b L : Nat} {xs : Nat → Int32} {ret : Option FieldType} (hdd : 200 ≤ d) (C : Cx G X d cL_law 8 RL ret) (Z : Cz G X) (S : Cs G X b L xs) {i : Int32} (hi : ∀ v : Int32, 0 ≤ v.toInt → v.toInt ≤ 5 → hIn (i + v) L) {m : hM} (h : IV m) {E : Option (Unit × hM)} (kk : ∀ m2, IV m2 → Rf vU G X 1869 (lwL G b i) [] m2 E) : Rf vU G X 726 (lwL G b i) [] m E := by
  obtain ⟨r, m1, m2, e1, e2, h2⟩ := ok_piece (fu := 4000) h (xs (i + 1).toNatClampNeg) (xs (i + 2).toNatClampNeg) (xs (i + 3).toNatClampNeg) (xs (i + 4).toNatClampNeg) (xs (i + 5).toNatClampNeg)
  refine rf_aload_n C (n := 727) (q := 3) (x := 0) dL_law_726 rfl rfl rfl ?_
  refine rl_arg C S (n := 733) (v := 1) dL_law_727 dL_law_728 dL_law_730 dL_law_731 dL_law_732 rfl rfl rfl rfl rfl (by decide) (hi 1 (by decide) (by decide)) ?_
  refine rl_arg C S (n := 739) (v := 2) dL_law_733 dL_law_734 dL_law_736 dL_law_737 dL_law_738 rfl rfl rfl rfl rfl (by decide) (hi 2 (by decide) (by decide)) ?_
  refine rl_arg C S (n := 745) (v := 3) dL_law_739 dL_law_740 dL_law_742 dL_law_743 dL_law_744 rfl rfl rfl rfl rfl (by decide) (hi 3 (by decide) (by decide)) ?_
  refine rl_arg C S (n := 751) (v := 4) dL_law_745 dL_law_746 dL_law_748 dL_law_749 dL_law_750 rfl rfl rfl rfl rfl (by decide) (hi 4 (by decide) (by decide)) ?_
  refine rl_arg C S (n := 757) (v := 5) dL_law_751 dL_law_752 dL_law_754 dL_law_755 dL_law_756 rfl rfl rfl rfl rfl (by decide) (hi 5 (by decide) (by decide)) ?_
  refine rl_callVi C (n := 760) (c_X10_piece G 4000 _ _ _ _ _ _) e1 lwc_71 ly_0 rfl ⟨by omega, by decide⟩ rfl (Nat.le_of_ble_eq_true rfl) rfl dL_law_757 rfl ?_
  refine rf_aload_n C (n := 761) (q := 2) (x := 96) dL_law_760 rfl rfl rfl ?_
  refine rl_arg C S (n := 767) (v := 1) dL_law_761 dL_law_762 dL_law_764 dL_law_765 dL_law_766 rfl rfl rfl rfl rfl (by decide) (hi 1 (by decide) (by decide)) ?_
  refine rl_arg C S (n := 773) (v := 2) dL_law_767 dL_law_768 dL_law_770 dL_law_771 dL_law_772 rfl rfl rfl rfl rfl (by decide) (hi 2 (by decide) (by decide)) ?_
  refine rl_arg C S (n := 779) (v := 3) dL_law_773 dL_law_774 dL_law_776 dL_law_777 dL_law_778 rfl rfl rfl rfl rfl (by decide) (hi 3 (by decide) (by decide)) ?_
  refine rl_arg C S (n := 785) (v := 4) dL_law_779 dL_law_780 dL_law_782 dL_law_783 dL_law_784 rfl rfl rfl rfl rfl (by decide) (hi 4 (by decide) (by decide)) ?_
  refine rl_arg C S (n := 791) (v := 5) dL_law_785 dL_law_786 dL_law_788 dL_law_789 dL_law_790 rfl rfl rfl rfl rfl (by decide) (hi 5 (by decide) (by decide)) ?_
  refine rl_callVi C (n := 794) (c_X11_piece G 4000 _ _ _ _ _ _) e2 lwc_74 ly_96 rfl ⟨by omega, by decide⟩ rfl (Nat.le_of_ble_eq_true rfl) rfl dL_law_791 rfl ?_
  refine rl_eqT C (n := 1869) dL_law_794 (by decide) ?_
  exact kk m2 h2
set_option maxHeartbeats 4000000 in
theorem lk_sign {G : hG} {X : hX} {d b L : Nat} {xs : Nat → Int32} {ret : Option FieldType} (hdd : 200 ≤ d) (C : Cx G X d cL_law 8 RL ret) (Z : Cz G X) (S : Cs G X b L xs) {i : Int32} (hi : ∀ v : Int32, 0 ≤ v.toInt → v.toInt ≤ 5 → hIn (i + v) L) {m : hM} (h : IV m) {E : Option (Unit × hM)} (kk : ∀ m2, IV m2 → Rf vU G X 1869 (lwL G b i) [] m2 E) : Rf vU G X 799 (lwL G b i) [] m E := by
  obtain ⟨r, m1, m2, e1, e2, h2⟩ := ok_sign (fu := 4000) (by omega) h (xs (i + 1).toNatClampNeg)
  refine rf_aload_n C (n := 800) (q := 3) (x := 0) dL_law_799 rfl rfl rfl ?_
  refine rl_arg C S (n := 806) (v := 1) dL_law_800 dL_law_801 dL_law_803 dL_law_804 dL_law_805 rfl rfl rfl rfl rfl (by decide) (hi 1 (by decide) (by decide)) ?_
  refine rl_callVi C (n := 809) (c_X10_sign G 4000 _ _) e1 lwc_75 ly_0 rfl ⟨by omega, by decide⟩ rfl (Nat.le_of_ble_eq_true rfl) rfl dL_law_806 rfl ?_
  refine rf_aload_n C (n := 810) (q := 2) (x := 96) dL_law_809 rfl rfl rfl ?_
  refine rl_arg C S (n := 816) (v := 1) dL_law_810 dL_law_811 dL_law_813 dL_law_814 dL_law_815 rfl rfl rfl rfl rfl (by decide) (hi 1 (by decide) (by decide)) ?_
  refine rl_callVi C (n := 819) (c_X11_sign G 4000 _ _) e2 lwc_79 ly_96 rfl ⟨by omega, by decide⟩ rfl (Nat.le_of_ble_eq_true rfl) rfl dL_law_816 rfl ?_
  refine rl_eqT C (n := 1869) dL_law_819 (by decide) ?_
  exact kk m2 h2
set_option maxHeartbeats 4000000 in
theorem lk_end {G : hG} {X : hX} {d b L : Nat} {xs : Nat → Int32} {ret : Option FieldType} (hdd : 200 ≤ d) (C : Cx G X d cL_law 8 RL ret) (Z : Cz G X) (S : Cs G X b L xs) {i : Int32} (hi : ∀ v : Int32, 0 ≤ v.toInt → v.toInt ≤ 5 → hIn (i + v) L) {m : hM} (h : IV m) {E : Option (Unit × hM)} (kk : ∀ m2, IV m2 → Rf vU G X 1869 (lwL G b i) [] m2 E) : Rf vU G X 824 (lwL G b i) [] m E := by
  obtain ⟨r, m1, m2, e1, e2, h2⟩ := ok_end (fu := 4000) h (xs (i + 1).toNatClampNeg)
  refine rf_aload_n C (n := 825) (q := 3) (x := 0) dL_law_824 rfl rfl rfl ?_
  refine rl_arg C S (n := 831) (v := 1) dL_law_825 dL_law_826 dL_law_828 dL_law_829 dL_law_830 rfl rfl rfl rfl rfl (by decide) (hi 1 (by decide) (by decide)) ?_
  refine rl_callVi C (n := 834) (c_X10_end G 4000 _ _) e1 lwc_80 ly_0 rfl ⟨by omega, by decide⟩ rfl (Nat.le_of_ble_eq_true rfl) rfl dL_law_831 rfl ?_
  refine rf_aload_n C (n := 835) (q := 2) (x := 96) dL_law_834 rfl rfl rfl ?_
  refine rl_arg C S (n := 841) (v := 1) dL_law_835 dL_law_836 dL_law_838 dL_law_839 dL_law_840 rfl rfl rfl rfl rfl (by decide) (hi 1 (by decide) (by decide)) ?_
  refine rl_callVi C (n := 844) (c_X11_end G 4000 _ _) e2 lwc_84 ly_96 rfl ⟨by omega, by decide⟩ rfl (Nat.le_of_ble_eq_true rfl) rfl dL_law_841 rfl ?_
  refine rl_eqT C (n := 1869) dL_law_844 (by decide) ?_
  exact kk m2 h2
set_option maxHeartbeats 4000000 in
theorem lk_rule {G : hG} {X : hX} {d b L : Nat} {xs : Nat → Int32} {ret : Option FieldType} (hdd : 200 ≤ d) (C : Cx G X d cL_law 8 RL ret) (Z : Cz G X) (S : Cs G X b L xs) {i : Int32} (hi : ∀ v : Int32, 0 ≤ v.toInt → v.toInt ≤ 5 → hIn (i + v) L) {m : hM} (h : IV m) {E : Option (Unit × hM)} (kk : ∀ m2, IV m2 → Rf vU G X 1869 (lwL G b i) [] m2 E) : Rf vU G X 849 (lwL G b i) [] m E := by
  obtain ⟨r, m1, m2, e1, e2, h2⟩ := ok_rule (fu := 4000) (by omega) h 
  refine rf_aload_n C (n := 850) (q := 3) (x := 0) dL_law_849 rfl rfl rfl ?_
  refine rl_callZi C Z (n := 853) (c_X10_rule G 4000 _) e1 lwc_85 ly_0 rfl ⟨by omega, by decide⟩ rfl (Nat.le_of_ble_eq_true rfl) rfl dL_law_850 rfl ?_
  refine rf_aload_n C (n := 854) (q := 2) (x := 96) dL_law_853 rfl rfl rfl ?_
  refine rl_callZi C Z (n := 857) (c_X11_rule G 4000 _) e2 lwc_89 ly_96 rfl ⟨by omega, by decide⟩ rfl (Nat.le_of_ble_eq_true rfl) rfl dL_law_854 rfl ?_
  refine rl_eqT C (n := 1869) dL_law_857 (by decide) ?_
  exact kk m2 h2
set_option maxHeartbeats 4000000 in
theorem lk_begin {G : hG} {X : hX} {d b L : Nat} {xs : Nat → Int32} {ret : Option FieldType} (hdd : 200 ≤ d) (C : Cx G X d cL_law 8 RL ret) (Z : Cz G X) (S : Cs G X b L xs) {i : Int32} (hi : ∀ v : Int32, 0 ≤ v.toInt → v.toInt ≤ 5 → hIn (i + v) L) {m : hM} (h : IV m) {E : Option (Unit × hM)} (kk : ∀ m2, IV m2 → Rf vU G X 1869 (lwL G b i) [] m2 E) : Rf vU G X 930 (lwL G b i) [] m E := by
  obtain ⟨r, m1, m2, e1, e2, h2⟩ := ok_begin (fu := 4000) (by omega) h (xs (i + 1).toNatClampNeg)
  refine rf_aload_n C (n := 931) (q := 3) (x := 0) dL_law_930 rfl rfl rfl ?_
  refine rl_arg C S (n := 937) (v := 1) dL_law_931 dL_law_932 dL_law_934 dL_law_935 dL_law_936 rfl rfl rfl rfl rfl (by decide) (hi 1 (by decide) (by decide)) ?_
  refine rl_callVi C (n := 940) (c_X10_begin G 4000 _ _) e1 lwc_99 ly_0 rfl ⟨by omega, by decide⟩ rfl (Nat.le_of_ble_eq_true rfl) rfl dL_law_937 rfl ?_
  refine rf_aload_n C (n := 941) (q := 2) (x := 96) dL_law_940 rfl rfl rfl ?_
  refine rl_arg C S (n := 947) (v := 1) dL_law_941 dL_law_942 dL_law_944 dL_law_945 dL_law_946 rfl rfl rfl rfl rfl (by decide) (hi 1 (by decide) (by decide)) ?_
  refine rl_callVi C (n := 950) (c_X11_begin G 4000 _ _) e2 lwc_102 ly_96 rfl ⟨by omega, by decide⟩ rfl (Nat.le_of_ble_eq_true rfl) rfl dL_law_947 rfl ?_
  refine rl_eqT C (n := 1869) dL_law_950 (by decide) ?_
  exact kk m2 h2
set_option maxHeartbeats 4000000 in
theorem lk_go {G : hG} {X : hX} {d b L : Nat} {xs : Nat → Int32} {ret : Option FieldType} (hdd : 200 ≤ d) (C : Cx G X d cL_law 8 RL ret) (Z : Cz G X) (S : Cs G X b L xs) {i : Int32} (hi : ∀ v : Int32, 0 ≤ v.toInt → v.toInt ≤ 5 → hIn (i + v) L) {m : hM} (h : IV m) {E : Option (Unit × hM)} (kk : ∀ m2, IV m2 → Rf vU G X 1869 (lwL G b i) [] m2 E) : Rf vU G X 955 (lwL G b i) [] m E := by
  obtain ⟨r, m1, m2, e1, e2, h2⟩ := ok_go (fu := 4000) (by omega) h (xs (i + 1).toNatClampNeg)
  refine rf_aload_n C (n := 956) (q := 3) (x := 0) dL_law_955 rfl rfl rfl ?_
  refine rl_arg C S (n := 962) (v := 1) dL_law_956 dL_law_957 dL_law_959 dL_law_960 dL_law_961 rfl rfl rfl rfl rfl (by decide) (hi 1 (by decide) (by decide)) ?_
  refine rl_callVi C (n := 965) (c_X10_go G 4000 _ _) e1 lwc_103 ly_0 rfl ⟨by omega, by decide⟩ rfl (Nat.le_of_ble_eq_true rfl) rfl dL_law_962 rfl ?_
  refine rf_aload_n C (n := 966) (q := 2) (x := 96) dL_law_965 rfl rfl rfl ?_
  refine rl_arg C S (n := 972) (v := 1) dL_law_966 dL_law_967 dL_law_969 dL_law_970 dL_law_971 rfl rfl rfl rfl rfl (by decide) (hi 1 (by decide) (by decide)) ?_
  refine rl_callVi C (n := 975) (c_X11_go G 4000 _ _) e2 lwc_106 ly_96 rfl ⟨by omega, by decide⟩ rfl (Nat.le_of_ble_eq_true rfl) rfl dL_law_972 rfl ?_
  refine rl_eqT C (n := 1869) dL_law_975 (by decide) ?_
  exact kk m2 h2
set_option maxHeartbeats 4000000 in
theorem lk_hand {G : hG} {X : hX} {d b L : Nat} {xs : Nat → Int32} {ret : Option FieldType} (hdd : 200 ≤ d) (C : Cx G X d cL_law 8 RL ret) (Z : Cz G X) (S : Cs G X b L xs) {i : Int32} (hi : ∀ v : Int32, 0 ≤ v.toInt → v.toInt ≤ 5 → hIn (i + v) L) {m : hM} (h : IV m) {E : Option (Unit × hM)} (kk : ∀ m2, IV m2 → Rf vU G X 1869 (lwL G b i) [] m2 E) : Rf vU G X 1048 (lwL G b i) [] m E := by
  obtain ⟨r, m1, m2, e1, e2, h2⟩ := ok_hand (fu := 4000) (by omega) h (xs (i + 1).toNatClampNeg) (xs (i + 2).toNatClampNeg)
  refine rf_aload_n C (n := 1049) (q := 3) (x := 0) dL_law_1048 rfl rfl rfl ?_
  refine rl_arg C S (n := 1055) (v := 1) dL_law_1049 dL_law_1050 dL_law_1052 dL_law_1053 dL_law_1054 rfl rfl rfl rfl rfl (by decide) (hi 1 (by decide) (by decide)) ?_
  refine rl_arg C S (n := 1061) (v := 2) dL_law_1055 dL_law_1056 dL_law_1058 dL_law_1059 dL_law_1060 rfl rfl rfl rfl rfl (by decide) (hi 2 (by decide) (by decide)) ?_
  refine rl_callVi C (n := 1064) (c_X10_hand G 4000 _ _ _) e1 lwc_110 ly_0 rfl ⟨by omega, by decide⟩ rfl (Nat.le_of_ble_eq_true rfl) rfl dL_law_1061 rfl ?_
  refine rf_aload_n C (n := 1065) (q := 2) (x := 96) dL_law_1064 rfl rfl rfl ?_
  refine rl_arg C S (n := 1071) (v := 1) dL_law_1065 dL_law_1066 dL_law_1068 dL_law_1069 dL_law_1070 rfl rfl rfl rfl rfl (by decide) (hi 1 (by decide) (by decide)) ?_
  refine rl_arg C S (n := 1077) (v := 2) dL_law_1071 dL_law_1072 dL_law_1074 dL_law_1075 dL_law_1076 rfl rfl rfl rfl rfl (by decide) (hi 2 (by decide) (by decide)) ?_
  refine rl_callVi C (n := 1080) (c_X11_hand G 4000 _ _ _) e2 lwc_113 ly_96 rfl ⟨by omega, by decide⟩ rfl (Nat.le_of_ble_eq_true rfl) rfl dL_law_1077 rfl ?_
  refine rl_eqT C (n := 1869) dL_law_1080 (by decide) ?_
  exact kk m2 h2
set_option maxHeartbeats 4000000 in
theorem lk_ends {G : hG} {X : hX} {d b L : Nat} {xs : Nat → Int32} {ret : Option FieldType} (hdd : 200 ≤ d) (C : Cx G X d cL_law 8 RL ret) (Z : Cz G X) (S : Cs G X b L xs) {i : Int32} (hi : ∀ v : Int32, 0 ≤ v.toInt → v.toInt ≤ 5 → hIn (i + v) L) {m : hM} (h : IV m) {E : Option (Unit × hM)} (kk : ∀ m2, IV m2 → Rf vU G X 1869 (lwL G b i) [] m2 E) : Rf vU G X 1085 (lwL G b i) [] m E := by
  obtain ⟨r, m1, m2, e1, e2, h2⟩ := ok_ends (fu := 4000) (by omega) h 
  refine rf_aload_n C (n := 1086) (q := 3) (x := 0) dL_law_1085 rfl rfl rfl ?_
  refine rl_callVi C (n := 1089) (c_X10_ends G 4000 _) e1 lwc_114 ly_0 rfl ⟨by omega, by decide⟩ rfl (Nat.le_of_ble_eq_true rfl) rfl dL_law_1086 rfl ?_
  refine rf_aload_n C (n := 1090) (q := 2) (x := 96) dL_law_1089 rfl rfl rfl ?_
  refine rl_callVi C (n := 1093) (c_X11_ends G 4000 _) e2 lwc_117 ly_96 rfl ⟨by omega, by decide⟩ rfl (Nat.le_of_ble_eq_true rfl) rfl dL_law_1090 rfl ?_
  refine rl_eqT C (n := 1869) dL_law_1093 (by decide) ?_
  exact kk m2 h2
set_option maxHeartbeats 4000000 in
theorem lk_judge {G : hG} {X : hX} {d b L : Nat} {xs : Nat → Int32} {ret : Option FieldType} (hdd : 200 ≤ d) (C : Cx G X d cL_law 8 RL ret) (Z : Cz G X) (S : Cs G X b L xs) {i : Int32} (hi : ∀ v : Int32, 0 ≤ v.toInt → v.toInt ≤ 5 → hIn (i + v) L) {m : hM} (h : IV m) {E : Option (Unit × hM)} (kk : ∀ m2, IV m2 → Rf vU G X 1869 (lwL G b i) [] m2 E) : Rf vU G X 1098 (lwL G b i) [] m E := by
  obtain ⟨r, m1, m2, e1, e2, h2⟩ := ok_judge (fu := 4000) (by omega) h 
  refine rf_aload_n C (n := 1099) (q := 3) (x := 0) dL_law_1098 rfl rfl rfl ?_
  refine rl_callVi C (n := 1102) (c_X10_judge G 4000 _) e1 lwc_118 ly_0 rfl ⟨by omega, by decide⟩ rfl (Nat.le_of_ble_eq_true rfl) rfl dL_law_1099 rfl ?_
  refine rf_aload_n C (n := 1103) (q := 2) (x := 96) dL_law_1102 rfl rfl rfl ?_
  refine rl_callVi C (n := 1106) (c_X11_judge G 4000 _) e2 lwc_121 ly_96 rfl ⟨by omega, by decide⟩ rfl (Nat.le_of_ble_eq_true rfl) rfl dL_law_1103 rfl ?_
  refine rl_eqT C (n := 1869) dL_law_1106 (by decide) ?_
  exact kk m2 h2
set_option maxHeartbeats 4000000 in
theorem lk_one {G : hG} {X : hX} {d b L : Nat} {xs : Nat → Int32} {ret : Option FieldType} (hdd : 200 ≤ d) (C : Cx G X d cL_law 8 RL ret) (Z : Cz G X) (S : Cs G X b L xs) {i : Int32} (hi : ∀ v : Int32, 0 ≤ v.toInt → v.toInt ≤ 5 → hIn (i + v) L) {m : hM} (h : IV m) {E : Option (Unit × hM)} (kk : ∀ m2, IV m2 → Rf vU G X 1869 (lwL G b i) [] m2 E) : Rf vU G X 1111 (lwL G b i) [] m E := by
  obtain ⟨r, m1, m2, e1, e2, h2⟩ := ok_one (fu := 4000) (by omega) h (xs (i + 1).toNatClampNeg) (xs (i + 2).toNatClampNeg) (xs (i + 3).toNatClampNeg)
  refine rf_aload_n C (n := 1112) (q := 3) (x := 0) dL_law_1111 rfl rfl rfl ?_
  refine rl_arg C S (n := 1118) (v := 1) dL_law_1112 dL_law_1113 dL_law_1115 dL_law_1116 dL_law_1117 rfl rfl rfl rfl rfl (by decide) (hi 1 (by decide) (by decide)) ?_
  refine rl_arg C S (n := 1124) (v := 2) dL_law_1118 dL_law_1119 dL_law_1121 dL_law_1122 dL_law_1123 rfl rfl rfl rfl rfl (by decide) (hi 2 (by decide) (by decide)) ?_
  refine rl_arg C S (n := 1130) (v := 3) dL_law_1124 dL_law_1125 dL_law_1127 dL_law_1128 dL_law_1129 rfl rfl rfl rfl rfl (by decide) (hi 3 (by decide) (by decide)) ?_
  refine rl_callVi C (n := 1133) (c_X10_one G 4000 _ _ _ _) e1 lwc_122 ly_0 rfl ⟨by omega, by decide⟩ rfl (Nat.le_of_ble_eq_true rfl) rfl dL_law_1130 rfl ?_
  refine rf_aload_n C (n := 1134) (q := 2) (x := 96) dL_law_1133 rfl rfl rfl ?_
  refine rl_arg C S (n := 1140) (v := 1) dL_law_1134 dL_law_1135 dL_law_1137 dL_law_1138 dL_law_1139 rfl rfl rfl rfl rfl (by decide) (hi 1 (by decide) (by decide)) ?_
  refine rl_arg C S (n := 1146) (v := 2) dL_law_1140 dL_law_1141 dL_law_1143 dL_law_1144 dL_law_1145 rfl rfl rfl rfl rfl (by decide) (hi 2 (by decide) (by decide)) ?_
  refine rl_arg C S (n := 1152) (v := 3) dL_law_1146 dL_law_1147 dL_law_1149 dL_law_1150 dL_law_1151 rfl rfl rfl rfl rfl (by decide) (hi 3 (by decide) (by decide)) ?_
  refine rl_callVi C (n := 1155) (c_X11_one G 4000 _ _ _ _) e2 lwc_125 ly_96 rfl ⟨by omega, by decide⟩ rfl (Nat.le_of_ble_eq_true rfl) rfl dL_law_1152 rfl ?_
  refine rl_eqT C (n := 1869) dL_law_1155 (by decide) ?_
  exact kk m2 h2
set_option maxHeartbeats 4000000 in
theorem lk_cheap {G : hG} {X : hX} {d b L : Nat} {xs : Nat → Int32} {ret : Option FieldType} (hdd : 200 ≤ d) (C : Cx G X d cL_law 8 RL ret) (Z : Cz G X) (S : Cs G X b L xs) {i : Int32} (hi : ∀ v : Int32, 0 ≤ v.toInt → v.toInt ≤ 5 → hIn (i + v) L) {m : hM} (h : IV m) {E : Option (Unit × hM)} (kk : ∀ m2, IV m2 → Rf vU G X 1869 (lwL G b i) [] m2 E) : Rf vU G X 1160 (lwL G b i) [] m E := by
  obtain ⟨r, m1, m2, e1, e2, h2⟩ := ok_cheap (fu := 4000) (by omega) h (xs (i + 1).toNatClampNeg) (xs (i + 2).toNatClampNeg) (xs (i + 3).toNatClampNeg) (xs (i + 4).toNatClampNeg)
  refine rf_aload_n C (n := 1161) (q := 3) (x := 0) dL_law_1160 rfl rfl rfl ?_
  refine rl_arg C S (n := 1167) (v := 1) dL_law_1161 dL_law_1162 dL_law_1164 dL_law_1165 dL_law_1166 rfl rfl rfl rfl rfl (by decide) (hi 1 (by decide) (by decide)) ?_
  refine rl_arg C S (n := 1173) (v := 2) dL_law_1167 dL_law_1168 dL_law_1170 dL_law_1171 dL_law_1172 rfl rfl rfl rfl rfl (by decide) (hi 2 (by decide) (by decide)) ?_
  refine rl_arg C S (n := 1179) (v := 3) dL_law_1173 dL_law_1174 dL_law_1176 dL_law_1177 dL_law_1178 rfl rfl rfl rfl rfl (by decide) (hi 3 (by decide) (by decide)) ?_
  refine rl_arg C S (n := 1185) (v := 4) dL_law_1179 dL_law_1180 dL_law_1182 dL_law_1183 dL_law_1184 rfl rfl rfl rfl rfl (by decide) (hi 4 (by decide) (by decide)) ?_
  refine rl_callVi C (n := 1188) (c_X10_cheap G 4000 _ _ _ _ _) e1 lwc_126 ly_0 rfl ⟨by omega, by decide⟩ rfl (Nat.le_of_ble_eq_true rfl) rfl dL_law_1185 rfl ?_
  refine rf_aload_n C (n := 1189) (q := 2) (x := 96) dL_law_1188 rfl rfl rfl ?_
  refine rl_arg C S (n := 1195) (v := 1) dL_law_1189 dL_law_1190 dL_law_1192 dL_law_1193 dL_law_1194 rfl rfl rfl rfl rfl (by decide) (hi 1 (by decide) (by decide)) ?_
  refine rl_arg C S (n := 1201) (v := 2) dL_law_1195 dL_law_1196 dL_law_1198 dL_law_1199 dL_law_1200 rfl rfl rfl rfl rfl (by decide) (hi 2 (by decide) (by decide)) ?_
  refine rl_arg C S (n := 1207) (v := 3) dL_law_1201 dL_law_1202 dL_law_1204 dL_law_1205 dL_law_1206 rfl rfl rfl rfl rfl (by decide) (hi 3 (by decide) (by decide)) ?_
  refine rl_arg C S (n := 1213) (v := 4) dL_law_1207 dL_law_1208 dL_law_1210 dL_law_1211 dL_law_1212 rfl rfl rfl rfl rfl (by decide) (hi 4 (by decide) (by decide)) ?_
  refine rl_callVi C (n := 1216) (c_X11_cheap G 4000 _ _ _ _ _) e2 lwc_129 ly_96 rfl ⟨by omega, by decide⟩ rfl (Nat.le_of_ble_eq_true rfl) rfl dL_law_1213 rfl ?_
  refine rl_eqT C (n := 1869) dL_law_1216 (by decide) ?_
  exact kk m2 h2
set_option maxHeartbeats 4000000 in
theorem lk_edge {G : hG} {X : hX} {d b L : Nat} {xs : Nat → Int32} {ret : Option FieldType} (hdd : 200 ≤ d) (C : Cx G X d cL_law 8 RL ret) (Z : Cz G X) (S : Cs G X b L xs) {i : Int32} (hi : ∀ v : Int32, 0 ≤ v.toInt → v.toInt ≤ 5 → hIn (i + v) L) {m : hM} (h : IV m) {E : Option (Unit × hM)} (kk : ∀ m2, IV m2 → Rf vU G X 1869 (lwL G b i) [] m2 E) : Rf vU G X 1221 (lwL G b i) [] m E := by
  obtain ⟨r, m1, m2, e1, e2, h2⟩ := ok_edge (fu := 4000) (by omega) h (xs (i + 1).toNatClampNeg) (xs (i + 2).toNatClampNeg) (xs (i + 3).toNatClampNeg)
  refine rf_aload_n C (n := 1222) (q := 3) (x := 0) dL_law_1221 rfl rfl rfl ?_
  refine rl_arg C S (n := 1228) (v := 1) dL_law_1222 dL_law_1223 dL_law_1225 dL_law_1226 dL_law_1227 rfl rfl rfl rfl rfl (by decide) (hi 1 (by decide) (by decide)) ?_
  refine rl_arg C S (n := 1234) (v := 2) dL_law_1228 dL_law_1229 dL_law_1231 dL_law_1232 dL_law_1233 rfl rfl rfl rfl rfl (by decide) (hi 2 (by decide) (by decide)) ?_
  refine rl_arg C S (n := 1240) (v := 3) dL_law_1234 dL_law_1235 dL_law_1237 dL_law_1238 dL_law_1239 rfl rfl rfl rfl rfl (by decide) (hi 3 (by decide) (by decide)) ?_
  refine rl_callVi C (n := 1243) (c_X10_edge G 4000 _ _ _ _) e1 lwc_130 ly_0 rfl ⟨by omega, by decide⟩ rfl (Nat.le_of_ble_eq_true rfl) rfl dL_law_1240 rfl ?_
  refine rf_aload_n C (n := 1244) (q := 2) (x := 96) dL_law_1243 rfl rfl rfl ?_
  refine rl_arg C S (n := 1250) (v := 1) dL_law_1244 dL_law_1245 dL_law_1247 dL_law_1248 dL_law_1249 rfl rfl rfl rfl rfl (by decide) (hi 1 (by decide) (by decide)) ?_
  refine rl_arg C S (n := 1256) (v := 2) dL_law_1250 dL_law_1251 dL_law_1253 dL_law_1254 dL_law_1255 rfl rfl rfl rfl rfl (by decide) (hi 2 (by decide) (by decide)) ?_
  refine rl_arg C S (n := 1262) (v := 3) dL_law_1256 dL_law_1257 dL_law_1259 dL_law_1260 dL_law_1261 rfl rfl rfl rfl rfl (by decide) (hi 3 (by decide) (by decide)) ?_
  refine rl_callVi C (n := 1265) (c_X11_edge G 4000 _ _ _ _) e2 lwc_133 ly_96 rfl ⟨by omega, by decide⟩ rfl (Nat.le_of_ble_eq_true rfl) rfl dL_law_1262 rfl ?_
  refine rl_eqT C (n := 1869) dL_law_1265 (by decide) ?_
  exact kk m2 h2
set_option maxHeartbeats 4000000 in
theorem lk_lie {G : hG} {X : hX} {d b L : Nat} {xs : Nat → Int32} {ret : Option FieldType} (hdd : 200 ≤ d) (C : Cx G X d cL_law 8 RL ret) (Z : Cz G X) (S : Cs G X b L xs) {i : Int32} (hi : ∀ v : Int32, 0 ≤ v.toInt → v.toInt ≤ 5 → hIn (i + v) L) {m : hM} (h : IV m) {E : Option (Unit × hM)} (kk : ∀ m2, IV m2 → Rf vU G X 1869 (lwL G b i) [] m2 E) : Rf vU G X 1270 (lwL G b i) [] m E := by
  obtain ⟨r, m1, m2, e1, e2, h2⟩ := ok_lie (fu := 4000) (by omega) h (xs (i + 1).toNatClampNeg) (xs (i + 2).toNatClampNeg)
  refine rf_aload_n C (n := 1271) (q := 3) (x := 0) dL_law_1270 rfl rfl rfl ?_
  refine rl_arg C S (n := 1277) (v := 1) dL_law_1271 dL_law_1272 dL_law_1274 dL_law_1275 dL_law_1276 rfl rfl rfl rfl rfl (by decide) (hi 1 (by decide) (by decide)) ?_
  refine rl_arg C S (n := 1283) (v := 2) dL_law_1277 dL_law_1278 dL_law_1280 dL_law_1281 dL_law_1282 rfl rfl rfl rfl rfl (by decide) (hi 2 (by decide) (by decide)) ?_
  refine rl_callVi C (n := 1286) (c_X10_lie G 4000 _ _ _) e1 lwc_134 ly_0 rfl ⟨by omega, by decide⟩ rfl (Nat.le_of_ble_eq_true rfl) rfl dL_law_1283 rfl ?_
  refine rf_aload_n C (n := 1287) (q := 2) (x := 96) dL_law_1286 rfl rfl rfl ?_
  refine rl_arg C S (n := 1293) (v := 1) dL_law_1287 dL_law_1288 dL_law_1290 dL_law_1291 dL_law_1292 rfl rfl rfl rfl rfl (by decide) (hi 1 (by decide) (by decide)) ?_
  refine rl_arg C S (n := 1299) (v := 2) dL_law_1293 dL_law_1294 dL_law_1296 dL_law_1297 dL_law_1298 rfl rfl rfl rfl rfl (by decide) (hi 2 (by decide) (by decide)) ?_
  refine rl_callVi C (n := 1302) (c_X11_lie G 4000 _ _ _) e2 lwc_137 ly_96 rfl ⟨by omega, by decide⟩ rfl (Nat.le_of_ble_eq_true rfl) rfl dL_law_1299 rfl ?_
  refine rl_eqT C (n := 1869) dL_law_1302 (by decide) ?_
  exact kk m2 h2
set_option maxHeartbeats 4000000 in
theorem lk_homes {G : hG} {X : hX} {d b L : Nat} {xs : Nat → Int32} {ret : Option FieldType} (hdd : 200 ≤ d) (C : Cx G X d cL_law 8 RL ret) (Z : Cz G X) (S : Cs G X b L xs) {i : Int32} (hi : ∀ v : Int32, 0 ≤ v.toInt → v.toInt ≤ 5 → hIn (i + v) L) {m : hM} (h : IV m) {E : Option (Unit × hM)} (kk : ∀ m2, IV m2 → Rf vU G X 1869 (lwL G b i) [] m2 E) : Rf vU G X 1307 (lwL G b i) [] m E := by
  obtain ⟨r, m1, m2, e1, e2, h2⟩ := ok_homes (fu := 4000) (by omega) h (xs (i + 1).toNatClampNeg) (xs (i + 2).toNatClampNeg)
  refine rf_aload_n C (n := 1308) (q := 3) (x := 0) dL_law_1307 rfl rfl rfl ?_
  refine rl_arg C S (n := 1314) (v := 1) dL_law_1308 dL_law_1309 dL_law_1311 dL_law_1312 dL_law_1313 rfl rfl rfl rfl rfl (by decide) (hi 1 (by decide) (by decide)) ?_
  refine rl_arg C S (n := 1320) (v := 2) dL_law_1314 dL_law_1315 dL_law_1317 dL_law_1318 dL_law_1319 rfl rfl rfl rfl rfl (by decide) (hi 2 (by decide) (by decide)) ?_
  refine rl_callVi C (n := 1323) (c_X10_homes G 4000 _ _ _) e1 lwc_138 ly_0 rfl ⟨by omega, by decide⟩ rfl (Nat.le_of_ble_eq_true rfl) rfl dL_law_1320 rfl ?_
  refine rf_aload_n C (n := 1324) (q := 2) (x := 96) dL_law_1323 rfl rfl rfl ?_
  refine rl_arg C S (n := 1330) (v := 1) dL_law_1324 dL_law_1325 dL_law_1327 dL_law_1328 dL_law_1329 rfl rfl rfl rfl rfl (by decide) (hi 1 (by decide) (by decide)) ?_
  refine rl_arg C S (n := 1336) (v := 2) dL_law_1330 dL_law_1331 dL_law_1333 dL_law_1334 dL_law_1335 rfl rfl rfl rfl rfl (by decide) (hi 2 (by decide) (by decide)) ?_
  refine rl_callVi C (n := 1339) (c_X11_homes G 4000 _ _ _) e2 lwc_141 ly_96 rfl ⟨by omega, by decide⟩ rfl (Nat.le_of_ble_eq_true rfl) rfl dL_law_1336 rfl ?_
  refine rl_eqT C (n := 1869) dL_law_1339 (by decide) ?_
  exact kk m2 h2
set_option maxHeartbeats 4000000 in
theorem lk_pair {G : hG} {X : hX} {d b L : Nat} {xs : Nat → Int32} {ret : Option FieldType} (hdd : 200 ≤ d) (C : Cx G X d cL_law 8 RL ret) (Z : Cz G X) (S : Cs G X b L xs) {i : Int32} (hi : ∀ v : Int32, 0 ≤ v.toInt → v.toInt ≤ 5 → hIn (i + v) L) {m : hM} (h : IV m) {E : Option (Unit × hM)} (kk : ∀ m2, IV m2 → Rf vU G X 1869 (lwL G b i) [] m2 E) : Rf vU G X 1344 (lwL G b i) [] m E := by
  obtain ⟨r, m1, m2, e1, e2, h2⟩ := ok_pair (fu := 4000) (by omega) h (xs (i + 1).toNatClampNeg) (xs (i + 2).toNatClampNeg) (xs (i + 3).toNatClampNeg)
  refine rf_aload_n C (n := 1345) (q := 3) (x := 0) dL_law_1344 rfl rfl rfl ?_
  refine rl_arg C S (n := 1351) (v := 1) dL_law_1345 dL_law_1346 dL_law_1348 dL_law_1349 dL_law_1350 rfl rfl rfl rfl rfl (by decide) (hi 1 (by decide) (by decide)) ?_
  refine rl_arg C S (n := 1357) (v := 2) dL_law_1351 dL_law_1352 dL_law_1354 dL_law_1355 dL_law_1356 rfl rfl rfl rfl rfl (by decide) (hi 2 (by decide) (by decide)) ?_
  refine rl_arg C S (n := 1363) (v := 3) dL_law_1357 dL_law_1358 dL_law_1360 dL_law_1361 dL_law_1362 rfl rfl rfl rfl rfl (by decide) (hi 3 (by decide) (by decide)) ?_
  refine rl_callVi C (n := 1366) (c_X10_pair G 4000 _ _ _ _) e1 lwc_142 ly_0 rfl ⟨by omega, by decide⟩ rfl (Nat.le_of_ble_eq_true rfl) rfl dL_law_1363 rfl ?_
  refine rf_aload_n C (n := 1367) (q := 2) (x := 96) dL_law_1366 rfl rfl rfl ?_
  refine rl_arg C S (n := 1373) (v := 1) dL_law_1367 dL_law_1368 dL_law_1370 dL_law_1371 dL_law_1372 rfl rfl rfl rfl rfl (by decide) (hi 1 (by decide) (by decide)) ?_
  refine rl_arg C S (n := 1379) (v := 2) dL_law_1373 dL_law_1374 dL_law_1376 dL_law_1377 dL_law_1378 rfl rfl rfl rfl rfl (by decide) (hi 2 (by decide) (by decide)) ?_
  refine rl_arg C S (n := 1385) (v := 3) dL_law_1379 dL_law_1380 dL_law_1382 dL_law_1383 dL_law_1384 rfl rfl rfl rfl rfl (by decide) (hi 3 (by decide) (by decide)) ?_
  refine rl_callVi C (n := 1388) (c_X11_pair G 4000 _ _ _ _) e2 lwc_145 ly_96 rfl ⟨by omega, by decide⟩ rfl (Nat.le_of_ble_eq_true rfl) rfl dL_law_1385 rfl ?_
  refine rl_eqT C (n := 1869) dL_law_1388 (by decide) ?_
  exact kk m2 h2
set_option maxHeartbeats 4000000 in
theorem lk_whom {G : hG} {X : hX} {d b L : Nat} {xs : Nat → Int32} {ret : Option FieldType} (hdd : 200 ≤ d) (C : Cx G X d cL_law 8 RL ret) (Z : Cz G X) (S : Cs G X b L xs) {i : Int32} (hi : ∀ v : Int32, 0 ≤ v.toInt → v.toInt ≤ 5 → hIn (i + v) L) {m : hM} (h : IV m) {E : Option (Unit × hM)} (kk : ∀ m2, IV m2 → Rf vU G X 1869 (lwL G b i) [] m2 E) : Rf vU G X 1393 (lwL G b i) [] m E := by
  obtain ⟨r, m1, m2, e1, e2, h2⟩ := ok_whom (fu := 4000) (by omega) h (xs (i + 1).toNatClampNeg) (xs (i + 2).toNatClampNeg)
  refine rf_aload_n C (n := 1394) (q := 3) (x := 0) dL_law_1393 rfl rfl rfl ?_
  refine rl_arg C S (n := 1400) (v := 1) dL_law_1394 dL_law_1395 dL_law_1397 dL_law_1398 dL_law_1399 rfl rfl rfl rfl rfl (by decide) (hi 1 (by decide) (by decide)) ?_
  refine rl_arg C S (n := 1406) (v := 2) dL_law_1400 dL_law_1401 dL_law_1403 dL_law_1404 dL_law_1405 rfl rfl rfl rfl rfl (by decide) (hi 2 (by decide) (by decide)) ?_
  refine rl_callVi C (n := 1409) (c_X10_whom G 4000 _ _ _) e1 lwc_146 ly_0 rfl ⟨by omega, by decide⟩ rfl (Nat.le_of_ble_eq_true rfl) rfl dL_law_1406 rfl ?_
  refine rf_aload_n C (n := 1410) (q := 2) (x := 96) dL_law_1409 rfl rfl rfl ?_
  refine rl_arg C S (n := 1416) (v := 1) dL_law_1410 dL_law_1411 dL_law_1413 dL_law_1414 dL_law_1415 rfl rfl rfl rfl rfl (by decide) (hi 1 (by decide) (by decide)) ?_
  refine rl_arg C S (n := 1422) (v := 2) dL_law_1416 dL_law_1417 dL_law_1419 dL_law_1420 dL_law_1421 rfl rfl rfl rfl rfl (by decide) (hi 2 (by decide) (by decide)) ?_
  refine rl_callVi C (n := 1425) (c_X11_whom G 4000 _ _ _) e2 lwc_149 ly_96 rfl ⟨by omega, by decide⟩ rfl (Nat.le_of_ble_eq_true rfl) rfl dL_law_1422 rfl ?_
  refine rl_eqT C (n := 1869) dL_law_1425 (by decide) ?_
  exact kk m2 h2
set_option maxHeartbeats 4000000 in
theorem lk_worth {G : hG} {X : hX} {d b L : Nat} {xs : Nat → Int32} {ret : Option FieldType} (hdd : 200 ≤ d) (C : Cx G X d cL_law 8 RL ret) (Z : Cz G X) (S : Cs G X b L xs) {i : Int32} (hi : ∀ v : Int32, 0 ≤ v.toInt → v.toInt ≤ 5 → hIn (i + v) L) {m : hM} (h : IV m) {E : Option (Unit × hM)} (kk : ∀ m2, IV m2 → Rf vU G X 1869 (lwL G b i) [] m2 E) : Rf vU G X 1430 (lwL G b i) [] m E := by
  obtain ⟨r, m1, m2, e1, e2, h2⟩ := ok_worth (fu := 4000) (by omega) h (xs (i + 1).toNatClampNeg)
  refine rf_aload_n C (n := 1431) (q := 3) (x := 0) dL_law_1430 rfl rfl rfl ?_
  refine rl_arg C S (n := 1437) (v := 1) dL_law_1431 dL_law_1432 dL_law_1434 dL_law_1435 dL_law_1436 rfl rfl rfl rfl rfl (by decide) (hi 1 (by decide) (by decide)) ?_
  refine rl_callVi C (n := 1440) (c_X10_worth G 4000 _ _) e1 lwc_150 ly_0 rfl ⟨by omega, by decide⟩ rfl (Nat.le_of_ble_eq_true rfl) rfl dL_law_1437 rfl ?_
  refine rf_aload_n C (n := 1441) (q := 2) (x := 96) dL_law_1440 rfl rfl rfl ?_
  refine rl_arg C S (n := 1447) (v := 1) dL_law_1441 dL_law_1442 dL_law_1444 dL_law_1445 dL_law_1446 rfl rfl rfl rfl rfl (by decide) (hi 1 (by decide) (by decide)) ?_
  refine rl_callVi C (n := 1450) (c_X11_worth G 4000 _ _) e2 lwc_153 ly_96 rfl ⟨by omega, by decide⟩ rfl (Nat.le_of_ble_eq_true rfl) rfl dL_law_1447 rfl ?_
  refine rl_eqT C (n := 1869) dL_law_1450 (by decide) ?_
  exact kk m2 h2
set_option maxHeartbeats 4000000 in
theorem lk_mean {G : hG} {X : hX} {d b L : Nat} {xs : Nat → Int32} {ret : Option FieldType} (hdd : 200 ≤ d) (C : Cx G X d cL_law 8 RL ret) (Z : Cz G X) (S : Cs G X b L xs) {i : Int32} (hi : ∀ v : Int32, 0 ≤ v.toInt → v.toInt ≤ 5 → hIn (i + v) L) {m : hM} (h : IV m) {E : Option (Unit × hM)} (kk : ∀ m2, IV m2 → Rf vU G X 1869 (lwL G b i) [] m2 E) : Rf vU G X 1480 (lwL G b i) [] m E := by
  obtain ⟨r, m1, m2, e1, e2, h2⟩ := ok_mean (fu := 4000) (by omega) h (xs (i + 1).toNatClampNeg)
  refine rf_aload_n C (n := 1481) (q := 3) (x := 0) dL_law_1480 rfl rfl rfl ?_
  refine rl_arg C S (n := 1487) (v := 1) dL_law_1481 dL_law_1482 dL_law_1484 dL_law_1485 dL_law_1486 rfl rfl rfl rfl rfl (by decide) (hi 1 (by decide) (by decide)) ?_
  refine rl_callVi C (n := 1490) (c_X10_mean G 4000 _ _) e1 lwc_158 ly_0 rfl ⟨by omega, by decide⟩ rfl (Nat.le_of_ble_eq_true rfl) rfl dL_law_1487 rfl ?_
  refine rf_aload_n C (n := 1491) (q := 2) (x := 96) dL_law_1490 rfl rfl rfl ?_
  refine rl_arg C S (n := 1497) (v := 1) dL_law_1491 dL_law_1492 dL_law_1494 dL_law_1495 dL_law_1496 rfl rfl rfl rfl rfl (by decide) (hi 1 (by decide) (by decide)) ?_
  refine rl_callVi C (n := 1500) (c_X11_mean G 4000 _ _) e2 lwc_161 ly_96 rfl ⟨by omega, by decide⟩ rfl (Nat.le_of_ble_eq_true rfl) rfl dL_law_1497 rfl ?_
  refine rl_eqT C (n := 1869) dL_law_1500 (by decide) ?_
  exact kk m2 h2
set_option maxHeartbeats 4000000 in
theorem lk_riskiest {G : hG} {X : hX} {d b L : Nat} {xs : Nat → Int32} {ret : Option FieldType} (hdd : 200 ≤ d) (C : Cx G X d cL_law 8 RL ret) (Z : Cz G X) (S : Cs G X b L xs) {i : Int32} (hi : ∀ v : Int32, 0 ≤ v.toInt → v.toInt ≤ 5 → hIn (i + v) L) {m : hM} (h : IV m) {E : Option (Unit × hM)} (kk : ∀ m2, IV m2 → Rf vU G X 1869 (lwL G b i) [] m2 E) : Rf vU G X 1505 (lwL G b i) [] m E := by
  obtain ⟨r, m1, m2, e1, e2, h2⟩ := ok_riskiest (fu := 4000) (by omega) h 
  refine rf_aload_n C (n := 1506) (q := 3) (x := 0) dL_law_1505 rfl rfl rfl ?_
  refine rl_callVi C (n := 1509) (c_X10_riskiest G 4000 _) e1 lwc_162 ly_0 rfl ⟨by omega, by decide⟩ rfl (Nat.le_of_ble_eq_true rfl) rfl dL_law_1506 rfl ?_
  refine rf_aload_n C (n := 1510) (q := 2) (x := 96) dL_law_1509 rfl rfl rfl ?_
  refine rl_callVi C (n := 1513) (c_X11_riskiest G 4000 _) e2 lwc_165 ly_96 rfl ⟨by omega, by decide⟩ rfl (Nat.le_of_ble_eq_true rfl) rfl dL_law_1510 rfl ?_
  refine rl_eqT C (n := 1869) dL_law_1513 (by decide) ?_
  exact kk m2 h2
set_option maxHeartbeats 4000000 in
theorem lk_site {G : hG} {X : hX} {d b L : Nat} {xs : Nat → Int32} {ret : Option FieldType} (hdd : 200 ≤ d) (C : Cx G X d cL_law 8 RL ret) (Z : Cz G X) (S : Cs G X b L xs) {i : Int32} (hi : ∀ v : Int32, 0 ≤ v.toInt → v.toInt ≤ 5 → hIn (i + v) L) {m : hM} (h : IV m) {E : Option (Unit × hM)} (kk : ∀ m2, IV m2 → Rf vU G X 1869 (lwL G b i) [] m2 E) : Rf vU G X 1518 (lwL G b i) [] m E := by
  obtain ⟨r, m1, m2, e1, e2, h2⟩ := ok_site (fu := 4000) (by omega) h (xs (i + 1).toNatClampNeg) (xs (i + 2).toNatClampNeg) (xs (i + 3).toNatClampNeg) (xs (i + 4).toNatClampNeg)
  refine rf_aload_n C (n := 1519) (q := 3) (x := 0) dL_law_1518 rfl rfl rfl ?_
  refine rl_arg C S (n := 1525) (v := 1) dL_law_1519 dL_law_1520 dL_law_1522 dL_law_1523 dL_law_1524 rfl rfl rfl rfl rfl (by decide) (hi 1 (by decide) (by decide)) ?_
  refine rl_arg C S (n := 1531) (v := 2) dL_law_1525 dL_law_1526 dL_law_1528 dL_law_1529 dL_law_1530 rfl rfl rfl rfl rfl (by decide) (hi 2 (by decide) (by decide)) ?_
  refine rl_arg C S (n := 1537) (v := 3) dL_law_1531 dL_law_1532 dL_law_1534 dL_law_1535 dL_law_1536 rfl rfl rfl rfl rfl (by decide) (hi 3 (by decide) (by decide)) ?_
  refine rl_arg C S (n := 1543) (v := 4) dL_law_1537 dL_law_1538 dL_law_1540 dL_law_1541 dL_law_1542 rfl rfl rfl rfl rfl (by decide) (hi 4 (by decide) (by decide)) ?_
  refine rl_callVi C (n := 1546) (c_X10_site G 4000 _ _ _ _ _) e1 lwc_166 ly_0 rfl ⟨by omega, by decide⟩ rfl (Nat.le_of_ble_eq_true rfl) rfl dL_law_1543 rfl ?_
  refine rf_aload_n C (n := 1547) (q := 2) (x := 96) dL_law_1546 rfl rfl rfl ?_
  refine rl_arg C S (n := 1553) (v := 1) dL_law_1547 dL_law_1548 dL_law_1550 dL_law_1551 dL_law_1552 rfl rfl rfl rfl rfl (by decide) (hi 1 (by decide) (by decide)) ?_
  refine rl_arg C S (n := 1559) (v := 2) dL_law_1553 dL_law_1554 dL_law_1556 dL_law_1557 dL_law_1558 rfl rfl rfl rfl rfl (by decide) (hi 2 (by decide) (by decide)) ?_
  refine rl_arg C S (n := 1565) (v := 3) dL_law_1559 dL_law_1560 dL_law_1562 dL_law_1563 dL_law_1564 rfl rfl rfl rfl rfl (by decide) (hi 3 (by decide) (by decide)) ?_
  refine rl_arg C S (n := 1571) (v := 4) dL_law_1565 dL_law_1566 dL_law_1568 dL_law_1569 dL_law_1570 rfl rfl rfl rfl rfl (by decide) (hi 4 (by decide) (by decide)) ?_
  refine rl_callVi C (n := 1574) (c_X11_site G 4000 _ _ _ _ _) e2 lwc_169 ly_96 rfl ⟨by omega, by decide⟩ rfl (Nat.le_of_ble_eq_true rfl) rfl dL_law_1571 rfl ?_
  refine rl_eqT C (n := 1869) dL_law_1574 (by decide) ?_
  exact kk m2 h2
set_option maxHeartbeats 4000000 in
theorem lk_together {G : hG} {X : hX} {d b L : Nat} {xs : Nat → Int32} {ret : Option FieldType} (hdd : 200 ≤ d) (C : Cx G X d cL_law 8 RL ret) (Z : Cz G X) (S : Cs G X b L xs) {i : Int32} (hi : ∀ v : Int32, 0 ≤ v.toInt → v.toInt ≤ 5 → hIn (i + v) L) {m : hM} (h : IV m) {E : Option (Unit × hM)} (kk : ∀ m2, IV m2 → Rf vU G X 1869 (lwL G b i) [] m2 E) : Rf vU G X 1579 (lwL G b i) [] m E := by
  obtain ⟨r, m1, m2, e1, e2, h2⟩ := ok_together (fu := 4000) (by omega) h (xs (i + 1).toNatClampNeg) (xs (i + 2).toNatClampNeg)
  refine rf_aload_n C (n := 1580) (q := 3) (x := 0) dL_law_1579 rfl rfl rfl ?_
  refine rl_arg C S (n := 1586) (v := 1) dL_law_1580 dL_law_1581 dL_law_1583 dL_law_1584 dL_law_1585 rfl rfl rfl rfl rfl (by decide) (hi 1 (by decide) (by decide)) ?_
  refine rl_arg C S (n := 1592) (v := 2) dL_law_1586 dL_law_1587 dL_law_1589 dL_law_1590 dL_law_1591 rfl rfl rfl rfl rfl (by decide) (hi 2 (by decide) (by decide)) ?_
  refine rl_callVi C (n := 1595) (c_X10_together G 4000 _ _ _) e1 lwc_170 ly_0 rfl ⟨by omega, by decide⟩ rfl (Nat.le_of_ble_eq_true rfl) rfl dL_law_1592 rfl ?_
  refine rf_aload_n C (n := 1596) (q := 2) (x := 96) dL_law_1595 rfl rfl rfl ?_
  refine rl_arg C S (n := 1602) (v := 1) dL_law_1596 dL_law_1597 dL_law_1599 dL_law_1600 dL_law_1601 rfl rfl rfl rfl rfl (by decide) (hi 1 (by decide) (by decide)) ?_
  refine rl_arg C S (n := 1608) (v := 2) dL_law_1602 dL_law_1603 dL_law_1605 dL_law_1606 dL_law_1607 rfl rfl rfl rfl rfl (by decide) (hi 2 (by decide) (by decide)) ?_
  refine rl_callVi C (n := 1611) (c_X11_together G 4000 _ _ _) e2 lwc_173 ly_96 rfl ⟨by omega, by decide⟩ rfl (Nat.le_of_ble_eq_true rfl) rfl dL_law_1608 rfl ?_
  refine rl_eqT C (n := 1869) dL_law_1611 (by decide) ?_
  exact kk m2 h2
set_option maxHeartbeats 4000000 in
theorem lk_sleeps {G : hG} {X : hX} {d b L : Nat} {xs : Nat → Int32} {ret : Option FieldType} (hdd : 200 ≤ d) (C : Cx G X d cL_law 8 RL ret) (Z : Cz G X) (S : Cs G X b L xs) {i : Int32} (hi : ∀ v : Int32, 0 ≤ v.toInt → v.toInt ≤ 5 → hIn (i + v) L) {m : hM} (h : IV m) {E : Option (Unit × hM)} (kk : ∀ m2, IV m2 → Rf vU G X 1869 (lwL G b i) [] m2 E) : Rf vU G X 1616 (lwL G b i) [] m E := by
  obtain ⟨r, m1, m2, e1, e2, h2⟩ := ok_sleeps (fu := 4000) (by omega) h (xs (i + 1).toNatClampNeg) (xs (i + 2).toNatClampNeg)
  refine rf_aload_n C (n := 1617) (q := 3) (x := 0) dL_law_1616 rfl rfl rfl ?_
  refine rl_arg C S (n := 1623) (v := 1) dL_law_1617 dL_law_1618 dL_law_1620 dL_law_1621 dL_law_1622 rfl rfl rfl rfl rfl (by decide) (hi 1 (by decide) (by decide)) ?_
  refine rl_arg C S (n := 1629) (v := 2) dL_law_1623 dL_law_1624 dL_law_1626 dL_law_1627 dL_law_1628 rfl rfl rfl rfl rfl (by decide) (hi 2 (by decide) (by decide)) ?_
  refine rl_callVi C (n := 1632) (c_X10_sleeps G 4000 _ _ _) e1 lwc_174 ly_0 rfl ⟨by omega, by decide⟩ rfl (Nat.le_of_ble_eq_true rfl) rfl dL_law_1629 rfl ?_
  refine rf_aload_n C (n := 1633) (q := 2) (x := 96) dL_law_1632 rfl rfl rfl ?_
  refine rl_arg C S (n := 1639) (v := 1) dL_law_1633 dL_law_1634 dL_law_1636 dL_law_1637 dL_law_1638 rfl rfl rfl rfl rfl (by decide) (hi 1 (by decide) (by decide)) ?_
  refine rl_arg C S (n := 1645) (v := 2) dL_law_1639 dL_law_1640 dL_law_1642 dL_law_1643 dL_law_1644 rfl rfl rfl rfl rfl (by decide) (hi 2 (by decide) (by decide)) ?_
  refine rl_callVi C (n := 1648) (c_X11_sleeps G 4000 _ _ _) e2 lwc_177 ly_96 rfl ⟨by omega, by decide⟩ rfl (Nat.le_of_ble_eq_true rfl) rfl dL_law_1645 rfl ?_
  refine rl_eqT C (n := 1869) dL_law_1648 (by decide) ?_
  exact kk m2 h2
set_option maxHeartbeats 4000000 in
theorem lk_worst {G : hG} {X : hX} {d b L : Nat} {xs : Nat → Int32} {ret : Option FieldType} (hdd : 200 ≤ d) (C : Cx G X d cL_law 8 RL ret) (Z : Cz G X) (S : Cs G X b L xs) {i : Int32} (hi : ∀ v : Int32, 0 ≤ v.toInt → v.toInt ≤ 5 → hIn (i + v) L) {m : hM} (h : IV m) {E : Option (Unit × hM)} (kk : ∀ m2, IV m2 → Rf vU G X 1869 (lwL G b i) [] m2 E) : Rf vU G X 1653 (lwL G b i) [] m E := by
  obtain ⟨r, m1, m2, e1, e2, h2⟩ := ok_worst (fu := 4000) (by omega) h (xs (i + 1).toNatClampNeg) (xs (i + 2).toNatClampNeg) (xs (i + 3).toNatClampNeg)
  refine rf_aload_n C (n := 1654) (q := 3) (x := 0) dL_law_1653 rfl rfl rfl ?_
  refine rl_arg C S (n := 1660) (v := 1) dL_law_1654 dL_law_1655 dL_law_1657 dL_law_1658 dL_law_1659 rfl rfl rfl rfl rfl (by decide) (hi 1 (by decide) (by decide)) ?_
  refine rl_arg C S (n := 1666) (v := 2) dL_law_1660 dL_law_1661 dL_law_1663 dL_law_1664 dL_law_1665 rfl rfl rfl rfl rfl (by decide) (hi 2 (by decide) (by decide)) ?_
  refine rl_arg C S (n := 1672) (v := 3) dL_law_1666 dL_law_1667 dL_law_1669 dL_law_1670 dL_law_1671 rfl rfl rfl rfl rfl (by decide) (hi 3 (by decide) (by decide)) ?_
  refine rl_callVi C (n := 1675) (c_X10_worst G 4000 _ _ _ _) e1 lwc_178 ly_0 rfl ⟨by omega, by decide⟩ rfl (Nat.le_of_ble_eq_true rfl) rfl dL_law_1672 rfl ?_
  refine rf_aload_n C (n := 1676) (q := 2) (x := 96) dL_law_1675 rfl rfl rfl ?_
  refine rl_arg C S (n := 1682) (v := 1) dL_law_1676 dL_law_1677 dL_law_1679 dL_law_1680 dL_law_1681 rfl rfl rfl rfl rfl (by decide) (hi 1 (by decide) (by decide)) ?_
  refine rl_arg C S (n := 1688) (v := 2) dL_law_1682 dL_law_1683 dL_law_1685 dL_law_1686 dL_law_1687 rfl rfl rfl rfl rfl (by decide) (hi 2 (by decide) (by decide)) ?_
  refine rl_arg C S (n := 1694) (v := 3) dL_law_1688 dL_law_1689 dL_law_1691 dL_law_1692 dL_law_1693 rfl rfl rfl rfl rfl (by decide) (hi 3 (by decide) (by decide)) ?_
  refine rl_callVi C (n := 1697) (c_X11_worst G 4000 _ _ _ _) e2 lwc_181 ly_96 rfl ⟨by omega, by decide⟩ rfl (Nat.le_of_ble_eq_true rfl) rfl dL_law_1694 rfl ?_
  refine rl_eqT C (n := 1869) dL_law_1697 (by decide) ?_
  exact kk m2 h2
set_option maxHeartbeats 4000000 in
theorem lk_march {G : hG} {X : hX} {d b L : Nat} {xs : Nat → Int32} {ret : Option FieldType} (hdd : 200 ≤ d) (C : Cx G X d cL_law 8 RL ret) (Z : Cz G X) (S : Cs G X b L xs) {i : Int32} (hi : ∀ v : Int32, 0 ≤ v.toInt → v.toInt ≤ 5 → hIn (i + v) L) {m : hM} (h : IV m) {E : Option (Unit × hM)} (kk : ∀ m2, IV m2 → Rf vU G X 1869 (lwL G b i) [] m2 E) : Rf vU G X 1702 (lwL G b i) [] m E := by
  obtain ⟨r, m1, m2, e1, e2, h2⟩ := ok_march (fu := 4000) (by omega) h (xs (i + 1).toNatClampNeg) (xs (i + 2).toNatClampNeg)
  refine rf_aload_n C (n := 1703) (q := 3) (x := 0) dL_law_1702 rfl rfl rfl ?_
  refine rl_arg C S (n := 1709) (v := 1) dL_law_1703 dL_law_1704 dL_law_1706 dL_law_1707 dL_law_1708 rfl rfl rfl rfl rfl (by decide) (hi 1 (by decide) (by decide)) ?_
  refine rl_arg C S (n := 1715) (v := 2) dL_law_1709 dL_law_1710 dL_law_1712 dL_law_1713 dL_law_1714 rfl rfl rfl rfl rfl (by decide) (hi 2 (by decide) (by decide)) ?_
  refine rl_callVi C (n := 1718) (c_X10_march G 4000 _ _ _) e1 lwc_182 ly_0 rfl ⟨by omega, by decide⟩ rfl (Nat.le_of_ble_eq_true rfl) rfl dL_law_1715 rfl ?_
  refine rf_aload_n C (n := 1719) (q := 2) (x := 96) dL_law_1718 rfl rfl rfl ?_
  refine rl_arg C S (n := 1725) (v := 1) dL_law_1719 dL_law_1720 dL_law_1722 dL_law_1723 dL_law_1724 rfl rfl rfl rfl rfl (by decide) (hi 1 (by decide) (by decide)) ?_
  refine rl_arg C S (n := 1731) (v := 2) dL_law_1725 dL_law_1726 dL_law_1728 dL_law_1729 dL_law_1730 rfl rfl rfl rfl rfl (by decide) (hi 2 (by decide) (by decide)) ?_
  refine rl_callVi C (n := 1734) (c_X11_march G 4000 _ _ _) e2 lwc_185 ly_96 rfl ⟨by omega, by decide⟩ rfl (Nat.le_of_ble_eq_true rfl) rfl dL_law_1731 rfl ?_
  refine rl_eqT C (n := 1869) dL_law_1734 (by decide) ?_
  exact kk m2 h2
set_option maxHeartbeats 4000000 in
theorem lk_keep {G : hG} {X : hX} {d b L : Nat} {xs : Nat → Int32} {ret : Option FieldType} (hdd : 200 ≤ d) (C : Cx G X d cL_law 8 RL ret) (Z : Cz G X) (S : Cs G X b L xs) {i : Int32} (hi : ∀ v : Int32, 0 ≤ v.toInt → v.toInt ≤ 5 → hIn (i + v) L) {m : hM} (h : IV m) {E : Option (Unit × hM)} (kk : ∀ m2, IV m2 → Rf vU G X 1869 (lwL G b i) [] m2 E) : Rf vU G X 1739 (lwL G b i) [] m E := by
  obtain ⟨r, m1, m2, e1, e2, h2⟩ := ok_keep (fu := 4000) (by omega) h (xs (i + 1).toNatClampNeg)
  refine rf_aload_n C (n := 1740) (q := 3) (x := 0) dL_law_1739 rfl rfl rfl ?_
  refine rl_arg C S (n := 1746) (v := 1) dL_law_1740 dL_law_1741 dL_law_1743 dL_law_1744 dL_law_1745 rfl rfl rfl rfl rfl (by decide) (hi 1 (by decide) (by decide)) ?_
  refine rl_callVi C (n := 1749) (c_X10_keep G 4000 _ _) e1 lwc_186 ly_0 rfl ⟨by omega, by decide⟩ rfl (Nat.le_of_ble_eq_true rfl) rfl dL_law_1746 rfl ?_
  refine rf_aload_n C (n := 1750) (q := 2) (x := 96) dL_law_1749 rfl rfl rfl ?_
  refine rl_arg C S (n := 1756) (v := 1) dL_law_1750 dL_law_1751 dL_law_1753 dL_law_1754 dL_law_1755 rfl rfl rfl rfl rfl (by decide) (hi 1 (by decide) (by decide)) ?_
  refine rl_callVi C (n := 1759) (c_X11_keep G 4000 _ _) e2 lwc_189 ly_96 rfl ⟨by omega, by decide⟩ rfl (Nat.le_of_ble_eq_true rfl) rfl dL_law_1756 rfl ?_
  refine rl_eqT C (n := 1869) dL_law_1759 (by decide) ?_
  exact kk m2 h2
set_option maxHeartbeats 4000000 in
theorem lk_again {G : hG} {X : hX} {d b L : Nat} {xs : Nat → Int32} {ret : Option FieldType} (hdd : 200 ≤ d) (C : Cx G X d cL_law 8 RL ret) (Z : Cz G X) (S : Cs G X b L xs) {i : Int32} (hi : ∀ v : Int32, 0 ≤ v.toInt → v.toInt ≤ 5 → hIn (i + v) L) {m : hM} (h : IV m) {E : Option (Unit × hM)} (kk : ∀ m2, IV m2 → Rf vU G X 1869 (lwL G b i) [] m2 E) : Rf vU G X 1764 (lwL G b i) [] m E := by
  obtain ⟨r, m1, m2, e1, e2, h2⟩ := ok_again (fu := 4000) (by omega) h (xs (i + 1).toNatClampNeg)
  refine rf_aload_n C (n := 1765) (q := 3) (x := 0) dL_law_1764 rfl rfl rfl ?_
  refine rl_arg C S (n := 1771) (v := 1) dL_law_1765 dL_law_1766 dL_law_1768 dL_law_1769 dL_law_1770 rfl rfl rfl rfl rfl (by decide) (hi 1 (by decide) (by decide)) ?_
  refine rl_callVi C (n := 1774) (c_X10_again G 4000 _ _) e1 lwc_190 ly_0 rfl ⟨by omega, by decide⟩ rfl (Nat.le_of_ble_eq_true rfl) rfl dL_law_1771 rfl ?_
  refine rf_aload_n C (n := 1775) (q := 2) (x := 96) dL_law_1774 rfl rfl rfl ?_
  refine rl_arg C S (n := 1781) (v := 1) dL_law_1775 dL_law_1776 dL_law_1778 dL_law_1779 dL_law_1780 rfl rfl rfl rfl rfl (by decide) (hi 1 (by decide) (by decide)) ?_
  refine rl_callVi C (n := 1784) (c_X11_again G 4000 _ _) e2 lwc_193 ly_96 rfl ⟨by omega, by decide⟩ rfl (Nat.le_of_ble_eq_true rfl) rfl dL_law_1781 rfl ?_
  refine rl_eqT C (n := 1869) dL_law_1784 (by decide) ?_
  exact kk m2 h2
set_option maxHeartbeats 4000000 in
theorem lk_count {G : hG} {X : hX} {d b L : Nat} {xs : Nat → Int32} {ret : Option FieldType} (hdd : 200 ≤ d) (C : Cx G X d cL_law 8 RL ret) (Z : Cz G X) (S : Cs G X b L xs) {i : Int32} (hi : ∀ v : Int32, 0 ≤ v.toInt → v.toInt ≤ 5 → hIn (i + v) L) {m : hM} (h : IV m) {E : Option (Unit × hM)} (kk : ∀ m2, IV m2 → Rf vU G X 1869 (lwL G b i) [] m2 E) : Rf vU G X 1789 (lwL G b i) [] m E := by
  obtain ⟨r, m1, m2, e1, e2, h2⟩ := ok_count (fu := 4000) (by omega) h (xs (i + 1).toNatClampNeg)
  refine rf_aload_n C (n := 1790) (q := 3) (x := 0) dL_law_1789 rfl rfl rfl ?_
  refine rl_arg C S (n := 1796) (v := 1) dL_law_1790 dL_law_1791 dL_law_1793 dL_law_1794 dL_law_1795 rfl rfl rfl rfl rfl (by decide) (hi 1 (by decide) (by decide)) ?_
  refine rl_callVi C (n := 1799) (c_X10_count G 4000 _ _) e1 lwc_194 ly_0 rfl ⟨by omega, by decide⟩ rfl (Nat.le_of_ble_eq_true rfl) rfl dL_law_1796 rfl ?_
  refine rf_aload_n C (n := 1800) (q := 2) (x := 96) dL_law_1799 rfl rfl rfl ?_
  refine rl_arg C S (n := 1806) (v := 1) dL_law_1800 dL_law_1801 dL_law_1803 dL_law_1804 dL_law_1805 rfl rfl rfl rfl rfl (by decide) (hi 1 (by decide) (by decide)) ?_
  refine rl_callVi C (n := 1809) (c_X11_count G 4000 _ _) e2 lwc_197 ly_96 rfl ⟨by omega, by decide⟩ rfl (Nat.le_of_ble_eq_true rfl) rfl dL_law_1806 rfl ?_
  refine rl_eqT C (n := 1869) dL_law_1809 (by decide) ?_
  exact kk m2 h2
