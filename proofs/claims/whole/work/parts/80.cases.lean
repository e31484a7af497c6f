/-! THE LAW, call by call -/
theorem lc_0 {L : Nat} {xs : Nat → Int32} {j : Nat} {M : Mem} (hj : j + 5 ≤ L) (hL : L ≤ 2560) (hI : Inv M) (kk : ∀ M2 : Mem, Inv M2 → AWP (FL L xs) tL 1638 (lvL j) [] M2) : AWP (FL L xs) tL 224 (lvL j) [] M := by
  obtain ⟨p5, p6, he, hJ⟩ := ok_feed ((((av xs j 1).toInt64 <<< ((32 : Int32).toInt64 &&& 63)) ||| ((av xs j 2).toInt64 &&& 4294967295))) ((av xs j 3)) hI
  refine r_aload_n FL.bs dL_law_224 rfl 2 rfl ?_
  refine l_arg hj hL 1 (by omega) dL_law_225 dL_law_226 dL_law_227 dL_law_228 dL_law_229 (by decide) ?_
  refine r_i2l FL.bs dL_law_230 ?_
  refine r_bipush FL.bs (v := 32) dL_law_231 (by decide) ?_
  refine r_lshl FL.bs dL_law_233 ?_
  refine l_arg hj hL 2 (by omega) dL_law_234 dL_law_235 dL_law_236 dL_law_237 dL_law_238 (by decide) ?_
  refine r_i2l FL.bs dL_law_239 ?_
  refine r_ldc2 FL.bs (v := 4294967295) dL_law_240 wd_1401 ?_
  refine r_land FL.bs dL_law_243 ?_
  refine r_lor FL.bs dL_law_244 ?_
  refine l_arg hj hL 3 (by omega) dL_law_245 dL_law_246 dL_law_247 dL_law_248 dL_law_249 (by decide) ?_
  refine r_callV_v FL.bs (st := []) dL_law_250 (ctX5_feed ((((av xs j 1).toInt64 <<< ((32 : Int32).toInt64 &&& 63)) ||| ((av xs j 2).toInt64 &&& 4294967295))) ((av xs j 3)) M p5) miX5_feed wd_299 rfl (Nat.le_of_ble_eq_true rfl) rfl (Nat.le_of_ble_eq_true rfl) rfl rfl rfl ?_
  refine r_aload_n FL.bs dL_law_253 rfl 1 rfl ?_
  refine l_arg hj hL 1 (by omega) dL_law_254 dL_law_255 dL_law_256 dL_law_257 dL_law_258 (by decide) ?_
  refine r_i2l FL.bs dL_law_259 ?_
  refine r_bipush FL.bs (v := 32) dL_law_260 (by decide) ?_
  refine r_lshl FL.bs dL_law_262 ?_
  refine l_arg hj hL 2 (by omega) dL_law_263 dL_law_264 dL_law_265 dL_law_266 dL_law_267 (by decide) ?_
  refine r_i2l FL.bs dL_law_268 ?_
  refine r_ldc2 FL.bs (v := 4294967295) dL_law_269 wd_1401 ?_
  refine r_land FL.bs dL_law_272 ?_
  refine r_lor FL.bs dL_law_273 ?_
  refine l_arg hj hL 3 (by omega) dL_law_274 dL_law_275 dL_law_276 dL_law_277 dL_law_278 (by decide) ?_
  refine r_callV_v FL.bs (st := [.int (mX5_feed ((((av xs j 1).toInt64 <<< ((32 : Int32).toInt64 &&& 63)) ||| ((av xs j 2).toInt64 &&& 4294967295))) ((av xs j 3)) M).1]) dL_law_279 (ctX6_feed ((((av xs j 1).toInt64 <<< ((32 : Int32).toInt64 &&& 63)) ||| ((av xs j 2).toInt64 &&& 4294967295))) ((av xs j 3)) ((mX5_feed ((((av xs j 1).toInt64 <<< ((32 : Int32).toInt64 &&& 63)) ||| ((av xs j 2).toInt64 &&& 4294967295))) ((av xs j 3)) M).2) p6) miX6_feed wd_966 rfl (Nat.le_of_ble_eq_true rfl) rfl (Nat.le_of_ble_eq_true rfl) rfl rfl rfl ?_
  refine r_icmp_eq_t FL.bs (tgt := 1638) dL_law_282 (by decide) he ?_
  exact kk _ hJ
theorem lc_1 {L : Nat} {xs : Nat → Int32} {j : Nat} {M : Mem} (hj : j + 5 ≤ L) (hL : L ≤ 2560) (hI : Inv M) (kk : ∀ M2 : Mem, Inv M2 → AWP (FL L xs) tL 1638 (lvL j) [] M2) : AWP (FL L xs) tL 287 (lvL j) [] M := by
  obtain ⟨p5, p6, he, hJ⟩ := ok_city  hI
  refine r_aload_n FL.bs dL_law_287 rfl 2 rfl ?_
  refine r_callV_v FL.bs (st := []) dL_law_288 (ctX5_city  M p5) miX5_city wd_310 rfl (Nat.le_of_ble_eq_true rfl) rfl (Nat.le_of_ble_eq_true rfl) rfl rfl rfl ?_
  refine r_aload_n FL.bs dL_law_291 rfl 1 rfl ?_
  refine r_callV_v FL.bs (st := [.int (mX5_city  M).1]) dL_law_292 (ctX6_city  ((mX5_city  M).2) p6) miX6_city wd_975 rfl (Nat.le_of_ble_eq_true rfl) rfl (Nat.le_of_ble_eq_true rfl) rfl rfl rfl ?_
  refine r_icmp_eq_t FL.bs (tgt := 1638) dL_law_295 (by decide) he ?_
  exact kk _ hJ
theorem lc_2 {L : Nat} {xs : Nat → Int32} {j : Nat} {M : Mem} (hj : j + 5 ≤ L) (hL : L ≤ 2560) (hI : Inv M) (kk : ∀ M2 : Mem, Inv M2 → AWP (FL L xs) tL 1638 (lvL j) [] M2) : AWP (FL L xs) tL 300 (lvL j) [] M := by
  obtain ⟨p5, p6, he, hJ⟩ := ok_set ((av xs j 1)) ((av xs j 2)) hI
  refine r_aload_n FL.bs dL_law_300 rfl 2 rfl ?_
  refine l_arg hj hL 1 (by omega) dL_law_301 dL_law_302 dL_law_303 dL_law_304 dL_law_305 (by decide) ?_
  refine l_arg hj hL 2 (by omega) dL_law_306 dL_law_307 dL_law_308 dL_law_309 dL_law_310 (by decide) ?_
  refine r_callV_v FL.bs (st := []) dL_law_311 (ctX5_set ((av xs j 1)) ((av xs j 2)) M p5) miX5_set wd_459 rfl (Nat.le_of_ble_eq_true rfl) rfl (Nat.le_of_ble_eq_true rfl) rfl rfl rfl ?_
  refine r_aload_n FL.bs dL_law_314 rfl 1 rfl ?_
  refine l_arg hj hL 1 (by omega) dL_law_315 dL_law_316 dL_law_317 dL_law_318 dL_law_319 (by decide) ?_
  refine l_arg hj hL 2 (by omega) dL_law_320 dL_law_321 dL_law_322 dL_law_323 dL_law_324 (by decide) ?_
  refine r_callV_v FL.bs (st := [.int (mX5_set ((av xs j 1)) ((av xs j 2)) M).1]) dL_law_325 (ctX6_set ((av xs j 1)) ((av xs j 2)) ((mX5_set ((av xs j 1)) ((av xs j 2)) M).2) p6) miX6_set wd_1052 rfl (Nat.le_of_ble_eq_true rfl) rfl (Nat.le_of_ble_eq_true rfl) rfl rfl rfl ?_
  refine r_icmp_eq_t FL.bs (tgt := 1638) dL_law_328 (by decide) he ?_
  exact kk _ hJ
theorem lc_3 {L : Nat} {xs : Nat → Int32} {j : Nat} {M : Mem} (hj : j + 5 ≤ L) (hL : L ≤ 2560) (hI : Inv M) (kk : ∀ M2 : Mem, Inv M2 → AWP (FL L xs) tL 1638 (lvL j) [] M2) : AWP (FL L xs) tL 333 (lvL j) [] M := by
  obtain ⟨p5, p6, he⟩ := ok_lawOf ((av xs j 1)) hI
  refine r_aload_n FL.bs dL_law_333 rfl 2 rfl ?_
  refine l_arg hj hL 1 (by omega) dL_law_334 dL_law_335 dL_law_336 dL_law_337 dL_law_338 (by decide) ?_
  refine r_callV_v FL.bs (st := []) dL_law_339 (ctX5_lawOf ((av xs j 1)) M p5) miX5_lawOf wd_468 rfl (Nat.le_of_ble_eq_true rfl) rfl (Nat.le_of_ble_eq_true rfl) rfl rfl rfl ?_
  refine r_aload_n FL.bs dL_law_342 rfl 1 rfl ?_
  refine l_arg hj hL 1 (by omega) dL_law_343 dL_law_344 dL_law_345 dL_law_346 dL_law_347 (by decide) ?_
  refine r_callV_v FL.bs (st := [.int (mX5_lawOf ((av xs j 1)) M)]) dL_law_348 (ctX6_lawOf ((av xs j 1)) M p6) miX6_lawOf wd_1063 rfl (Nat.le_of_ble_eq_true rfl) rfl (Nat.le_of_ble_eq_true rfl) rfl rfl rfl ?_
  refine r_icmp_eq_t FL.bs (tgt := 1638) dL_law_351 (by decide) he ?_
  exact kk _ hI
theorem lc_4 {L : Nat} {xs : Nat → Int32} {j : Nat} {M : Mem} (hj : j + 5 ≤ L) (hL : L ≤ 2560) (hI : Inv M) (kk : ∀ M2 : Mem, Inv M2 → AWP (FL L xs) tL 1638 (lvL j) [] M2) : AWP (FL L xs) tL 356 (lvL j) [] M := by
  obtain ⟨p5, p6, he, hJ⟩ := ok_air ((av xs j 1)) ((av xs j 2)) ((av xs j 3)) ((av xs j 4)) hI
  refine r_aload_n FL.bs dL_law_356 rfl 2 rfl ?_
  refine l_arg hj hL 1 (by omega) dL_law_357 dL_law_358 dL_law_359 dL_law_360 dL_law_361 (by decide) ?_
  refine l_arg hj hL 2 (by omega) dL_law_362 dL_law_363 dL_law_364 dL_law_365 dL_law_366 (by decide) ?_
  refine l_arg hj hL 3 (by omega) dL_law_367 dL_law_368 dL_law_369 dL_law_370 dL_law_371 (by decide) ?_
  refine l_arg hj hL 4 (by omega) dL_law_372 dL_law_373 dL_law_374 dL_law_375 dL_law_376 (by decide) ?_
  refine r_callV_v FL.bs (st := []) dL_law_377 (ctX5_air ((av xs j 1)) ((av xs j 2)) ((av xs j 3)) ((av xs j 4)) M p5) miX5_air wd_472 rfl (Nat.le_of_ble_eq_true rfl) rfl (Nat.le_of_ble_eq_true rfl) rfl rfl rfl ?_
  refine r_aload_n FL.bs dL_law_380 rfl 1 rfl ?_
  refine l_arg hj hL 1 (by omega) dL_law_381 dL_law_382 dL_law_383 dL_law_384 dL_law_385 (by decide) ?_
  refine l_arg hj hL 2 (by omega) dL_law_386 dL_law_387 dL_law_388 dL_law_389 dL_law_390 (by decide) ?_
  refine l_arg hj hL 3 (by omega) dL_law_391 dL_law_392 dL_law_393 dL_law_394 dL_law_395 (by decide) ?_
  refine l_arg hj hL 4 (by omega) dL_law_396 dL_law_397 dL_law_398 dL_law_399 dL_law_400 (by decide) ?_
  refine r_callV_v FL.bs (st := [.int (mX5_air ((av xs j 1)) ((av xs j 2)) ((av xs j 3)) ((av xs j 4)) M).1]) dL_law_401 (ctX6_air ((av xs j 1)) ((av xs j 2)) ((av xs j 3)) ((av xs j 4)) ((mX5_air ((av xs j 1)) ((av xs j 2)) ((av xs j 3)) ((av xs j 4)) M).2) p6) miX6_air wd_1067 rfl (Nat.le_of_ble_eq_true rfl) rfl (Nat.le_of_ble_eq_true rfl) rfl rfl rfl ?_
  refine r_icmp_eq_t FL.bs (tgt := 1638) dL_law_404 (by decide) he ?_
  exact kk _ hJ
theorem lc_5 {L : Nat} {xs : Nat → Int32} {j : Nat} {M : Mem} (hj : j + 5 ≤ L) (hL : L ≤ 2560) (hI : Inv M) (kk : ∀ M2 : Mem, Inv M2 → AWP (FL L xs) tL 1638 (lvL j) [] M2) : AWP (FL L xs) tL 409 (lvL j) [] M := by
  obtain ⟨p5, p6, he⟩ := ok_of ((av xs j 1)) ((av xs j 2)) hI
  refine r_aload_n FL.bs dL_law_409 rfl 2 rfl ?_
  refine l_arg hj hL 1 (by omega) dL_law_410 dL_law_411 dL_law_412 dL_law_413 dL_law_414 (by decide) ?_
  refine l_arg hj hL 2 (by omega) dL_law_415 dL_law_416 dL_law_417 dL_law_418 dL_law_419 (by decide) ?_
  refine r_callV_v FL.bs (st := []) dL_law_420 (ctX5_of ((av xs j 1)) ((av xs j 2)) M p5) miX5_of wd_486 rfl (Nat.le_of_ble_eq_true rfl) rfl (Nat.le_of_ble_eq_true rfl) rfl rfl rfl ?_
  refine r_aload_n FL.bs dL_law_423 rfl 1 rfl ?_
  refine l_arg hj hL 1 (by omega) dL_law_424 dL_law_425 dL_law_426 dL_law_427 dL_law_428 (by decide) ?_
  refine l_arg hj hL 2 (by omega) dL_law_429 dL_law_430 dL_law_431 dL_law_432 dL_law_433 (by decide) ?_
  refine r_callV_v FL.bs (st := [.int (mX5_of ((av xs j 1)) ((av xs j 2)) M)]) dL_law_434 (ctX6_of ((av xs j 1)) ((av xs j 2)) M p6) miX6_of wd_1075 rfl (Nat.le_of_ble_eq_true rfl) rfl (Nat.le_of_ble_eq_true rfl) rfl rfl rfl ?_
  refine r_icmp_eq_t FL.bs (tgt := 1638) dL_law_437 (by decide) he ?_
  exact kk _ hI
theorem lc_6 {L : Nat} {xs : Nat → Int32} {j : Nat} {M : Mem} (hj : j + 5 ≤ L) (hL : L ≤ 2560) (hI : Inv M) (kk : ∀ M2 : Mem, Inv M2 → AWP (FL L xs) tL 1638 (lvL j) [] M2) : AWP (FL L xs) tL 442 (lvL j) [] M := by
  obtain ⟨p5, p6, he, hJ⟩ := ok_mind ((av xs j 1)) ((av xs j 2)) ((av xs j 3)) hI
  refine r_aload_n FL.bs dL_law_442 rfl 2 rfl ?_
  refine l_arg hj hL 1 (by omega) dL_law_443 dL_law_444 dL_law_445 dL_law_446 dL_law_447 (by decide) ?_
  refine l_arg hj hL 2 (by omega) dL_law_448 dL_law_449 dL_law_450 dL_law_451 dL_law_452 (by decide) ?_
  refine l_arg hj hL 3 (by omega) dL_law_453 dL_law_454 dL_law_455 dL_law_456 dL_law_457 (by decide) ?_
  refine r_callV_v FL.bs (st := []) dL_law_458 (ctX5_mind ((av xs j 1)) ((av xs j 2)) ((av xs j 3)) M p5) miX5_mind wd_523 rfl (Nat.le_of_ble_eq_true rfl) rfl (Nat.le_of_ble_eq_true rfl) rfl rfl rfl ?_
  refine r_aload_n FL.bs dL_law_461 rfl 1 rfl ?_
  refine l_arg hj hL 1 (by omega) dL_law_462 dL_law_463 dL_law_464 dL_law_465 dL_law_466 (by decide) ?_
  refine l_arg hj hL 2 (by omega) dL_law_467 dL_law_468 dL_law_469 dL_law_470 dL_law_471 (by decide) ?_
  refine l_arg hj hL 3 (by omega) dL_law_472 dL_law_473 dL_law_474 dL_law_475 dL_law_476 (by decide) ?_
  refine r_callV_v FL.bs (st := [.int (mX5_mind ((av xs j 1)) ((av xs j 2)) ((av xs j 3)) M).1]) dL_law_477 (ctX6_mind ((av xs j 1)) ((av xs j 2)) ((av xs j 3)) ((mX5_mind ((av xs j 1)) ((av xs j 2)) ((av xs j 3)) M).2) p6) miX6_mind wd_1102 rfl (Nat.le_of_ble_eq_true rfl) rfl (Nat.le_of_ble_eq_true rfl) rfl rfl rfl ?_
  refine r_icmp_eq_t FL.bs (tgt := 1638) dL_law_480 (by decide) he ?_
  exact kk _ hJ
theorem lc_7 {L : Nat} {xs : Nat → Int32} {j : Nat} {M : Mem} (hj : j + 5 ≤ L) (hL : L ≤ 2560) (hI : Inv M) (kk : ∀ M2 : Mem, Inv M2 → AWP (FL L xs) tL 1638 (lvL j) [] M2) : AWP (FL L xs) tL 485 (lvL j) [] M := by
  obtain ⟨p5, p6, he, hJ⟩ := ok_bring ((av xs j 1)) ((av xs j 2)) hI
  refine r_aload_n FL.bs dL_law_485 rfl 2 rfl ?_
  refine l_arg hj hL 1 (by omega) dL_law_486 dL_law_487 dL_law_488 dL_law_489 dL_law_490 (by decide) ?_
  refine l_arg hj hL 2 (by omega) dL_law_491 dL_law_492 dL_law_493 dL_law_494 dL_law_495 (by decide) ?_
  refine r_callV_v FL.bs (st := []) dL_law_496 (ctX5_bring ((av xs j 1)) ((av xs j 2)) M p5) miX5_bring wd_527 rfl (Nat.le_of_ble_eq_true rfl) rfl (Nat.le_of_ble_eq_true rfl) rfl rfl rfl ?_
  refine r_aload_n FL.bs dL_law_499 rfl 1 rfl ?_
  refine l_arg hj hL 1 (by omega) dL_law_500 dL_law_501 dL_law_502 dL_law_503 dL_law_504 (by decide) ?_
  refine l_arg hj hL 2 (by omega) dL_law_505 dL_law_506 dL_law_507 dL_law_508 dL_law_509 (by decide) ?_
  refine r_callV_v FL.bs (st := [.int (mX5_bring ((av xs j 1)) ((av xs j 2)) M).1]) dL_law_510 (ctX6_bring ((av xs j 1)) ((av xs j 2)) ((mX5_bring ((av xs j 1)) ((av xs j 2)) M).2) p6) miX6_bring wd_1106 rfl (Nat.le_of_ble_eq_true rfl) rfl (Nat.le_of_ble_eq_true rfl) rfl rfl rfl ?_
  refine r_icmp_eq_t FL.bs (tgt := 1638) dL_law_513 (by decide) he ?_
  exact kk _ hJ
theorem lc_8 {L : Nat} {xs : Nat → Int32} {j : Nat} {M : Mem} (hj : j + 5 ≤ L) (hL : L ≤ 2560) (hI : Inv M) (kk : ∀ M2 : Mem, Inv M2 → AWP (FL L xs) tL 1638 (lvL j) [] M2) : AWP (FL L xs) tL 518 (lvL j) [] M := by
  obtain ⟨p5, p6, he, hJ⟩ := ok_send ((av xs j 1)) ((av xs j 2)) hI
  refine r_aload_n FL.bs dL_law_518 rfl 2 rfl ?_
  refine l_arg hj hL 1 (by omega) dL_law_519 dL_law_520 dL_law_521 dL_law_522 dL_law_523 (by decide) ?_
  refine l_arg hj hL 2 (by omega) dL_law_524 dL_law_525 dL_law_526 dL_law_527 dL_law_528 (by decide) ?_
  refine r_callV_v FL.bs (st := []) dL_law_529 (ctX5_send ((av xs j 1)) ((av xs j 2)) M p5) miX5_send wd_531 rfl (Nat.le_of_ble_eq_true rfl) rfl (Nat.le_of_ble_eq_true rfl) rfl rfl rfl ?_
  refine r_aload_n FL.bs dL_law_532 rfl 1 rfl ?_
  refine l_arg hj hL 1 (by omega) dL_law_533 dL_law_534 dL_law_535 dL_law_536 dL_law_537 (by decide) ?_
  refine l_arg hj hL 2 (by omega) dL_law_538 dL_law_539 dL_law_540 dL_law_541 dL_law_542 (by decide) ?_
  refine r_callV_v FL.bs (st := [.int (mX5_send ((av xs j 1)) ((av xs j 2)) M).1]) dL_law_543 (ctX6_send ((av xs j 1)) ((av xs j 2)) ((mX5_send ((av xs j 1)) ((av xs j 2)) M).2) p6) miX6_send wd_1110 rfl (Nat.le_of_ble_eq_true rfl) rfl (Nat.le_of_ble_eq_true rfl) rfl rfl rfl ?_
  refine r_icmp_eq_t FL.bs (tgt := 1638) dL_law_546 (by decide) he ?_
  exact kk _ hJ
theorem lc_9 {L : Nat} {xs : Nat → Int32} {j : Nat} {M : Mem} (hj : j + 5 ≤ L) (hL : L ≤ 2560) (hI : Inv M) (kk : ∀ M2 : Mem, Inv M2 → AWP (FL L xs) tL 1638 (lvL j) [] M2) : AWP (FL L xs) tL 551 (lvL j) [] M := by
  obtain ⟨p5, p6, he, hJ⟩ := ok_blow ((av xs j 1)) hI
  refine r_aload_n FL.bs dL_law_551 rfl 2 rfl ?_
  refine l_arg hj hL 1 (by omega) dL_law_552 dL_law_553 dL_law_554 dL_law_555 dL_law_556 (by decide) ?_
  refine r_callV_v FL.bs (st := []) dL_law_557 (ctX5_blow ((av xs j 1)) M) miX5_blow wd_535 rfl (Nat.le_of_ble_eq_true rfl) rfl (Nat.le_of_ble_eq_true rfl) rfl rfl rfl ?_
  refine r_aload_n FL.bs dL_law_560 rfl 1 rfl ?_
  refine l_arg hj hL 1 (by omega) dL_law_561 dL_law_562 dL_law_563 dL_law_564 dL_law_565 (by decide) ?_
  refine r_callV_v FL.bs (st := [.int (mX5_blow ((av xs j 1)) M).1]) dL_law_566 (ctX6_blow ((av xs j 1)) ((mX5_blow ((av xs j 1)) M).2) p6) miX6_blow wd_1114 rfl (Nat.le_of_ble_eq_true rfl) rfl (Nat.le_of_ble_eq_true rfl) rfl rfl rfl ?_
  refine r_icmp_eq_t FL.bs (tgt := 1638) dL_law_569 (by decide) he ?_
  exact kk _ hJ
theorem lc_10 {L : Nat} {xs : Nat → Int32} {j : Nat} {M : Mem} (hj : j + 5 ≤ L) (hL : L ≤ 2560) (hI : Inv M) (kk : ∀ M2 : Mem, Inv M2 → AWP (FL L xs) tL 1638 (lvL j) [] M2) : AWP (FL L xs) tL 574 (lvL j) [] M := by
  obtain ⟨p5, p6, he, hJ⟩ := ok_pour ((av xs j 1)) ((av xs j 2)) hI
  refine r_aload_n FL.bs dL_law_574 rfl 2 rfl ?_
  refine l_arg hj hL 1 (by omega) dL_law_575 dL_law_576 dL_law_577 dL_law_578 dL_law_579 (by decide) ?_
  refine l_arg hj hL 2 (by omega) dL_law_580 dL_law_581 dL_law_582 dL_law_583 dL_law_584 (by decide) ?_
  refine r_callV_v FL.bs (st := []) dL_law_585 (ctX5_pour ((av xs j 1)) ((av xs j 2)) M p5) miX5_pour wd_539 rfl (Nat.le_of_ble_eq_true rfl) rfl (Nat.le_of_ble_eq_true rfl) rfl rfl rfl ?_
  refine r_aload_n FL.bs dL_law_588 rfl 1 rfl ?_
  refine l_arg hj hL 1 (by omega) dL_law_589 dL_law_590 dL_law_591 dL_law_592 dL_law_593 (by decide) ?_
  refine l_arg hj hL 2 (by omega) dL_law_594 dL_law_595 dL_law_596 dL_law_597 dL_law_598 (by decide) ?_
  refine r_callV_v FL.bs (st := [.int (mX5_pour ((av xs j 1)) ((av xs j 2)) M).1]) dL_law_599 (ctX6_pour ((av xs j 1)) ((av xs j 2)) ((mX5_pour ((av xs j 1)) ((av xs j 2)) M).2) p6) miX6_pour wd_1118 rfl (Nat.le_of_ble_eq_true rfl) rfl (Nat.le_of_ble_eq_true rfl) rfl rfl rfl ?_
  refine r_icmp_eq_t FL.bs (tgt := 1638) dL_law_602 (by decide) he ?_
  exact kk _ hJ
theorem lc_11 {L : Nat} {xs : Nat → Int32} {j : Nat} {M : Mem} (hj : j + 5 ≤ L) (hL : L ≤ 2560) (hI : Inv M) (kk : ∀ M2 : Mem, Inv M2 → AWP (FL L xs) tL 1638 (lvL j) [] M2) : AWP (FL L xs) tL 607 (lvL j) [] M := by
  obtain ⟨p5, p6, he⟩ := ok_house ((av xs j 1)) ((av xs j 2)) hI
  refine r_aload_n FL.bs dL_law_607 rfl 2 rfl ?_
  refine l_arg hj hL 1 (by omega) dL_law_608 dL_law_609 dL_law_610 dL_law_611 dL_law_612 (by decide) ?_
  refine l_arg hj hL 2 (by omega) dL_law_613 dL_law_614 dL_law_615 dL_law_616 dL_law_617 (by decide) ?_
  refine r_callV_v FL.bs (st := []) dL_law_618 (ctX5_house ((av xs j 1)) ((av xs j 2)) M p5) miX5_house wd_543 rfl (Nat.le_of_ble_eq_true rfl) rfl (Nat.le_of_ble_eq_true rfl) rfl rfl rfl ?_
  refine r_aload_n FL.bs dL_law_621 rfl 1 rfl ?_
  refine l_arg hj hL 1 (by omega) dL_law_622 dL_law_623 dL_law_624 dL_law_625 dL_law_626 (by decide) ?_
  refine l_arg hj hL 2 (by omega) dL_law_627 dL_law_628 dL_law_629 dL_law_630 dL_law_631 (by decide) ?_
  refine r_callV_v FL.bs (st := [.int (mX5_house ((av xs j 1)) ((av xs j 2)) M)]) dL_law_632 (ctX6_house ((av xs j 1)) ((av xs j 2)) M p6) miX6_house wd_1122 rfl (Nat.le_of_ble_eq_true rfl) rfl (Nat.le_of_ble_eq_true rfl) rfl rfl rfl ?_
  refine r_icmp_eq_t FL.bs (tgt := 1638) dL_law_635 (by decide) he ?_
  exact kk _ hI
theorem lc_12 {L : Nat} {xs : Nat → Int32} {j : Nat} {M : Mem} (hj : j + 5 ≤ L) (hL : L ≤ 2560) (hI : Inv M) (kk : ∀ M2 : Mem, Inv M2 → AWP (FL L xs) tL 1638 (lvL j) [] M2) : AWP (FL L xs) tL 640 (lvL j) [] M := by
  obtain ⟨p5, p6, he, hJ⟩ := ok_steps ((av xs j 1)) hI
  refine r_aload_n FL.bs dL_law_640 rfl 2 rfl ?_
  refine l_arg hj hL 1 (by omega) dL_law_641 dL_law_642 dL_law_643 dL_law_644 dL_law_645 (by decide) ?_
  refine r_callV_v FL.bs (st := []) dL_law_646 (ctX5_steps ((av xs j 1)) M p5) miX5_steps wd_551 rfl (Nat.le_of_ble_eq_true rfl) rfl (Nat.le_of_ble_eq_true rfl) rfl rfl rfl ?_
  refine r_aload_n FL.bs dL_law_649 rfl 1 rfl ?_
  refine l_arg hj hL 1 (by omega) dL_law_650 dL_law_651 dL_law_652 dL_law_653 dL_law_654 (by decide) ?_
  refine r_callV_v FL.bs (st := [.int (mX5_steps ((av xs j 1)) M).1]) dL_law_655 (ctX6_steps ((av xs j 1)) ((mX5_steps ((av xs j 1)) M).2) p6) miX6_steps wd_1130 rfl (Nat.le_of_ble_eq_true rfl) rfl (Nat.le_of_ble_eq_true rfl) rfl rfl rfl ?_
  refine r_icmp_eq_t FL.bs (tgt := 1638) dL_law_658 (by decide) he ?_
  exact kk _ hJ
theorem lc_13 {L : Nat} {xs : Nat → Int32} {j : Nat} {M : Mem} (hj : j + 5 ≤ L) (hL : L ≤ 2560) (hI : Inv M) (kk : ∀ M2 : Mem, Inv M2 → AWP (FL L xs) tL 1638 (lvL j) [] M2) : AWP (FL L xs) tL 663 (lvL j) [] M := by
  obtain ⟨p5, p6, he, hJ⟩ := ok_seed ((av xs j 1)) hI
  refine r_aload_n FL.bs dL_law_663 rfl 2 rfl ?_
  refine l_arg hj hL 1 (by omega) dL_law_664 dL_law_665 dL_law_666 dL_law_667 dL_law_668 (by decide) ?_
  refine r_callV_v FL.bs (st := []) dL_law_669 (ctX5_seed ((av xs j 1)) M) miX5_seed wd_584 rfl (Nat.le_of_ble_eq_true rfl) rfl (Nat.le_of_ble_eq_true rfl) rfl rfl rfl ?_
  refine r_aload_n FL.bs dL_law_672 rfl 1 rfl ?_
  refine l_arg hj hL 1 (by omega) dL_law_673 dL_law_674 dL_law_675 dL_law_676 dL_law_677 (by decide) ?_
  refine r_callV_v FL.bs (st := [.int (mX5_seed ((av xs j 1)) M).1]) dL_law_678 (ctX6_seed ((av xs j 1)) ((mX5_seed ((av xs j 1)) M).2) p6) miX6_seed wd_1153 rfl (Nat.le_of_ble_eq_true rfl) rfl (Nat.le_of_ble_eq_true rfl) rfl rfl rfl ?_
  refine r_icmp_eq_t FL.bs (tgt := 1638) dL_law_681 (by decide) he ?_
  exact kk _ hJ
theorem lc_14 {L : Nat} {xs : Nat → Int32} {j : Nat} {M : Mem} (hj : j + 5 ≤ L) (hL : L ≤ 2560) (hI : Inv M) (kk : ∀ M2 : Mem, Inv M2 → AWP (FL L xs) tL 1638 (lvL j) [] M2) : AWP (FL L xs) tL 686 (lvL j) [] M := by
  obtain ⟨p5, p6, he, hJ⟩ := ok_step  hI
  refine r_aload_n FL.bs dL_law_686 rfl 2 rfl ?_
  refine r_callV_v FL.bs (st := []) dL_law_687 (ctX5_step  M p5) miX5_step wd_588 rfl (Nat.le_of_ble_eq_true rfl) rfl (Nat.le_of_ble_eq_true rfl) rfl rfl rfl ?_
  refine r_aload_n FL.bs dL_law_690 rfl 1 rfl ?_
  refine r_callV_v FL.bs (st := [.int (mX5_step  M).1]) dL_law_691 (ctX6_step  ((mX5_step  M).2) p6) miX6_step wd_1157 rfl (Nat.le_of_ble_eq_true rfl) rfl (Nat.le_of_ble_eq_true rfl) rfl rfl rfl ?_
  refine r_icmp_eq_t FL.bs (tgt := 1638) dL_law_694 (by decide) he ?_
  exact kk _ hJ
theorem lc_15 {L : Nat} {xs : Nat → Int32} {j : Nat} {M : Mem} (hj : j + 5 ≤ L) (hL : L ≤ 2560) (hI : Inv M) (kk : ∀ M2 : Mem, Inv M2 → AWP (FL L xs) tL 1638 (lvL j) [] M2) : AWP (FL L xs) tL 699 (lvL j) [] M := by
  obtain ⟨p5, p6, he, hJ⟩ := ok_blown ((av xs j 1)) hI
  refine r_aload_n FL.bs dL_law_699 rfl 2 rfl ?_
  refine l_arg hj hL 1 (by omega) dL_law_700 dL_law_701 dL_law_702 dL_law_703 dL_law_704 (by decide) ?_
  refine r_callV_v FL.bs (st := []) dL_law_705 (ctX5_blown ((av xs j 1)) M p5) miX5_blown wd_602 rfl (Nat.le_of_ble_eq_true rfl) rfl (Nat.le_of_ble_eq_true rfl) rfl rfl rfl ?_
  refine r_aload_n FL.bs dL_law_708 rfl 1 rfl ?_
  refine l_arg hj hL 1 (by omega) dL_law_709 dL_law_710 dL_law_711 dL_law_712 dL_law_713 (by decide) ?_
  refine r_callV_v FL.bs (st := [.int (mX5_blown ((av xs j 1)) M).1]) dL_law_714 (ctX6_blown ((av xs j 1)) ((mX5_blown ((av xs j 1)) M).2) p6) miX6_blown wd_1166 rfl (Nat.le_of_ble_eq_true rfl) rfl (Nat.le_of_ble_eq_true rfl) rfl rfl rfl ?_
  refine r_icmp_eq_t FL.bs (tgt := 1638) dL_law_717 (by decide) he ?_
  exact kk _ hJ
theorem lc_16 {L : Nat} {xs : Nat → Int32} {j : Nat} {M : Mem} (hj : j + 5 ≤ L) (hL : L ≤ 2560) (hI : Inv M) (kk : ∀ M2 : Mem, Inv M2 → AWP (FL L xs) tL 1638 (lvL j) [] M2) : AWP (FL L xs) tL 722 (lvL j) [] M := by
  obtain ⟨p5, p6, he⟩ := ok_state ((av xs j 1)) hI
  refine r_aload_n FL.bs dL_law_722 rfl 2 rfl ?_
  refine l_arg hj hL 1 (by omega) dL_law_723 dL_law_724 dL_law_725 dL_law_726 dL_law_727 (by decide) ?_
  refine r_callV_v FL.bs (st := []) dL_law_728 (ctX5_state ((av xs j 1)) M p5) miX5_state wd_611 rfl (Nat.le_of_ble_eq_true rfl) rfl (Nat.le_of_ble_eq_true rfl) rfl rfl rfl ?_
  refine r_aload_n FL.bs dL_law_731 rfl 1 rfl ?_
  refine l_arg hj hL 1 (by omega) dL_law_732 dL_law_733 dL_law_734 dL_law_735 dL_law_736 (by decide) ?_
  refine r_callV_v FL.bs (st := [.int (mX5_state ((av xs j 1)) M)]) dL_law_737 (ctX6_state ((av xs j 1)) M p6) miX6_state wd_1172 rfl (Nat.le_of_ble_eq_true rfl) rfl (Nat.le_of_ble_eq_true rfl) rfl rfl rfl ?_
  refine r_icmp_eq_t FL.bs (tgt := 1638) dL_law_740 (by decide) he ?_
  exact kk _ hI
theorem lc_17 {L : Nat} {xs : Nat → Int32} {j : Nat} {M : Mem} (hj : j + 5 ≤ L) (hL : L ≤ 2560) (hI : Inv M) (kk : ∀ M2 : Mem, Inv M2 → AWP (FL L xs) tL 1638 (lvL j) [] M2) : AWP (FL L xs) tL 745 (lvL j) [] M := by
  obtain ⟨p5, p6, he, hJ⟩ := ok_where ((av xs j 1)) ((av xs j 2)) hI
  refine r_aload_n FL.bs dL_law_745 rfl 2 rfl ?_
  refine l_arg hj hL 1 (by omega) dL_law_746 dL_law_747 dL_law_748 dL_law_749 dL_law_750 (by decide) ?_
  refine l_arg hj hL 2 (by omega) dL_law_751 dL_law_752 dL_law_753 dL_law_754 dL_law_755 (by decide) ?_
  refine r_callV_v FL.bs (st := []) dL_law_756 (ctX5_where ((av xs j 1)) ((av xs j 2)) M p5) miX5_where wd_627 rfl (Nat.le_of_ble_eq_true rfl) rfl (Nat.le_of_ble_eq_true rfl) rfl rfl rfl ?_
  refine r_aload_n FL.bs dL_law_759 rfl 1 rfl ?_
  refine l_arg hj hL 1 (by omega) dL_law_760 dL_law_761 dL_law_762 dL_law_763 dL_law_764 (by decide) ?_
  refine l_arg hj hL 2 (by omega) dL_law_765 dL_law_766 dL_law_767 dL_law_768 dL_law_769 (by decide) ?_
  refine r_callV_v FL.bs (st := [.int (mX5_where ((av xs j 1)) ((av xs j 2)) M).1]) dL_law_770 (ctX6_where ((av xs j 1)) ((av xs j 2)) ((mX5_where ((av xs j 1)) ((av xs j 2)) M).2) p6) miX6_where wd_1188 rfl (Nat.le_of_ble_eq_true rfl) rfl (Nat.le_of_ble_eq_true rfl) rfl rfl rfl ?_
  refine r_icmp_eq_t FL.bs (tgt := 1638) dL_law_773 (by decide) he ?_
  exact kk _ hJ
theorem lc_18 {L : Nat} {xs : Nat → Int32} {j : Nat} {M : Mem} (hj : j + 5 ≤ L) (hL : L ≤ 2560) (hI : Inv M) (kk : ∀ M2 : Mem, Inv M2 → AWP (FL L xs) tL 1638 (lvL j) [] M2) : AWP (FL L xs) tL 778 (lvL j) [] M := by
  obtain ⟨p5, p6, he, hJ⟩ := ok_stops ((av xs j 1)) hI
  refine r_aload_n FL.bs dL_law_778 rfl 2 rfl ?_
  refine l_arg hj hL 1 (by omega) dL_law_779 dL_law_780 dL_law_781 dL_law_782 dL_law_783 (by decide) ?_
  refine r_callV_v FL.bs (st := []) dL_law_784 (ctX5_stops ((av xs j 1)) M p5) miX5_stops wd_639 rfl (Nat.le_of_ble_eq_true rfl) rfl (Nat.le_of_ble_eq_true rfl) rfl rfl rfl ?_
  refine r_aload_n FL.bs dL_law_787 rfl 1 rfl ?_
  refine l_arg hj hL 1 (by omega) dL_law_788 dL_law_789 dL_law_790 dL_law_791 dL_law_792 (by decide) ?_
  refine r_callV_v FL.bs (st := [.int (mX5_stops ((av xs j 1)) M).1]) dL_law_793 (ctX6_stops ((av xs j 1)) ((mX5_stops ((av xs j 1)) M).2) p6) miX6_stops wd_1196 rfl (Nat.le_of_ble_eq_true rfl) rfl (Nat.le_of_ble_eq_true rfl) rfl rfl rfl ?_
  refine r_icmp_eq_t FL.bs (tgt := 1638) dL_law_796 (by decide) he ?_
  exact kk _ hJ
theorem lc_19 {L : Nat} {xs : Nat → Int32} {j : Nat} {M : Mem} (hj : j + 5 ≤ L) (hL : L ≤ 2560) (hI : Inv M) (kk : ∀ M2 : Mem, Inv M2 → AWP (FL L xs) tL 1638 (lvL j) [] M2) : AWP (FL L xs) tL 801 (lvL j) [] M := by
  obtain ⟨p5, p6, he, hJ⟩ := ok_meets ((av xs j 1)) ((av xs j 2)) hI
  refine r_aload_n FL.bs dL_law_801 rfl 2 rfl ?_
  refine l_arg hj hL 1 (by omega) dL_law_802 dL_law_803 dL_law_804 dL_law_805 dL_law_806 (by decide) ?_
  refine l_arg hj hL 2 (by omega) dL_law_807 dL_law_808 dL_law_809 dL_law_810 dL_law_811 (by decide) ?_
  refine r_callV_v FL.bs (st := []) dL_law_812 (ctX5_meets ((av xs j 1)) ((av xs j 2)) M p5) miX5_meets wd_643 rfl (Nat.le_of_ble_eq_true rfl) rfl (Nat.le_of_ble_eq_true rfl) rfl rfl rfl ?_
  refine r_aload_n FL.bs dL_law_815 rfl 1 rfl ?_
  refine l_arg hj hL 1 (by omega) dL_law_816 dL_law_817 dL_law_818 dL_law_819 dL_law_820 (by decide) ?_
  refine l_arg hj hL 2 (by omega) dL_law_821 dL_law_822 dL_law_823 dL_law_824 dL_law_825 (by decide) ?_
  refine r_callV_v FL.bs (st := [.int (mX5_meets ((av xs j 1)) ((av xs j 2)) M).1]) dL_law_826 (ctX6_meets ((av xs j 1)) ((av xs j 2)) ((mX5_meets ((av xs j 1)) ((av xs j 2)) M).2) p6) miX6_meets wd_1200 rfl (Nat.le_of_ble_eq_true rfl) rfl (Nat.le_of_ble_eq_true rfl) rfl rfl rfl ?_
  refine r_icmp_eq_t FL.bs (tgt := 1638) dL_law_829 (by decide) he ?_
  exact kk _ hJ
theorem lc_20 {L : Nat} {xs : Nat → Int32} {j : Nat} {M : Mem} (hj : j + 5 ≤ L) (hL : L ≤ 2560) (hI : Inv M) (kk : ∀ M2 : Mem, Inv M2 → AWP (FL L xs) tL 1638 (lvL j) [] M2) : AWP (FL L xs) tL 834 (lvL j) [] M := by
  obtain ⟨p5, p6, he, hJ⟩ := ok_told ((av xs j 1)) hI
  refine r_aload_n FL.bs dL_law_834 rfl 2 rfl ?_
  refine l_arg hj hL 1 (by omega) dL_law_835 dL_law_836 dL_law_837 dL_law_838 dL_law_839 (by decide) ?_
  refine r_callV_v FL.bs (st := []) dL_law_840 (ctX5_told ((av xs j 1)) M p5) miX5_told wd_647 rfl (Nat.le_of_ble_eq_true rfl) rfl (Nat.le_of_ble_eq_true rfl) rfl rfl rfl ?_
  refine r_aload_n FL.bs dL_law_843 rfl 1 rfl ?_
  refine l_arg hj hL 1 (by omega) dL_law_844 dL_law_845 dL_law_846 dL_law_847 dL_law_848 (by decide) ?_
  refine r_callV_v FL.bs (st := [.int (mX5_told ((av xs j 1)) M).1]) dL_law_849 (ctX6_told ((av xs j 1)) ((mX5_told ((av xs j 1)) M).2) p6) miX6_told wd_1204 rfl (Nat.le_of_ble_eq_true rfl) rfl (Nat.le_of_ble_eq_true rfl) rfl rfl rfl ?_
  refine r_icmp_eq_t FL.bs (tgt := 1638) dL_law_852 (by decide) he ?_
  exact kk _ hJ
theorem lc_21 {L : Nat} {xs : Nat → Int32} {j : Nat} {M : Mem} (hj : j + 5 ≤ L) (hL : L ≤ 2560) (hI : Inv M) (kk : ∀ M2 : Mem, Inv M2 → AWP (FL L xs) tL 1638 (lvL j) [] M2) : AWP (FL L xs) tL 857 (lvL j) [] M := by
  obtain ⟨p5, p6, he, hJ⟩ := ok_off ((av xs j 1)) ((av xs j 2)) hI
  refine r_aload_n FL.bs dL_law_857 rfl 2 rfl ?_
  refine l_arg hj hL 1 (by omega) dL_law_858 dL_law_859 dL_law_860 dL_law_861 dL_law_862 (by decide) ?_
  refine l_arg hj hL 2 (by omega) dL_law_863 dL_law_864 dL_law_865 dL_law_866 dL_law_867 (by decide) ?_
  refine r_callV_v FL.bs (st := []) dL_law_868 (ctX5_off ((av xs j 1)) ((av xs j 2)) M p5) miX5_off wd_651 rfl (Nat.le_of_ble_eq_true rfl) rfl (Nat.le_of_ble_eq_true rfl) rfl rfl rfl ?_
  refine r_aload_n FL.bs dL_law_871 rfl 1 rfl ?_
  refine l_arg hj hL 1 (by omega) dL_law_872 dL_law_873 dL_law_874 dL_law_875 dL_law_876 (by decide) ?_
  refine l_arg hj hL 2 (by omega) dL_law_877 dL_law_878 dL_law_879 dL_law_880 dL_law_881 (by decide) ?_
  refine r_callV_v FL.bs (st := [.int (mX5_off ((av xs j 1)) ((av xs j 2)) M).1]) dL_law_882 (ctX6_off ((av xs j 1)) ((av xs j 2)) ((mX5_off ((av xs j 1)) ((av xs j 2)) M).2) p6) miX6_off wd_1208 rfl (Nat.le_of_ble_eq_true rfl) rfl (Nat.le_of_ble_eq_true rfl) rfl rfl rfl ?_
  refine r_icmp_eq_t FL.bs (tgt := 1638) dL_law_885 (by decide) he ?_
  exact kk _ hJ
theorem lc_22 {L : Nat} {xs : Nat → Int32} {j : Nat} {M : Mem} (hj : j + 5 ≤ L) (hL : L ≤ 2560) (hI : Inv M) (kk : ∀ M2 : Mem, Inv M2 → AWP (FL L xs) tL 1638 (lvL j) [] M2) : AWP (FL L xs) tL 890 (lvL j) [] M := by
  obtain ⟨p5, p6, he, hJ⟩ := ok_windFor ((av xs j 1)) ((av xs j 2)) hI
  refine r_aload_n FL.bs dL_law_890 rfl 2 rfl ?_
  refine l_arg hj hL 1 (by omega) dL_law_891 dL_law_892 dL_law_893 dL_law_894 dL_law_895 (by decide) ?_
  refine l_arg hj hL 2 (by omega) dL_law_896 dL_law_897 dL_law_898 dL_law_899 dL_law_900 (by decide) ?_
  refine r_callV_v FL.bs (st := []) dL_law_901 (ctX5_windFor ((av xs j 1)) ((av xs j 2)) M p5) miX5_windFor wd_665 rfl (Nat.le_of_ble_eq_true rfl) rfl (Nat.le_of_ble_eq_true rfl) rfl rfl rfl ?_
  refine r_aload_n FL.bs dL_law_904 rfl 1 rfl ?_
  refine l_arg hj hL 1 (by omega) dL_law_905 dL_law_906 dL_law_907 dL_law_908 dL_law_909 (by decide) ?_
  refine l_arg hj hL 2 (by omega) dL_law_910 dL_law_911 dL_law_912 dL_law_913 dL_law_914 (by decide) ?_
  refine r_callV_v FL.bs (st := [.int (mX5_windFor ((av xs j 1)) ((av xs j 2)) M).1]) dL_law_915 (ctX6_windFor ((av xs j 1)) ((av xs j 2)) ((mX5_windFor ((av xs j 1)) ((av xs j 2)) M).2) p6) miX6_windFor wd_1223 rfl (Nat.le_of_ble_eq_true rfl) rfl (Nat.le_of_ble_eq_true rfl) rfl rfl rfl ?_
  refine r_icmp_eq_t FL.bs (tgt := 1638) dL_law_918 (by decide) he ?_
  exact kk _ hJ
theorem lc_23 {L : Nat} {xs : Nat → Int32} {j : Nat} {M : Mem} (hj : j + 5 ≤ L) (hL : L ≤ 2560) (hI : Inv M) (kk : ∀ M2 : Mem, Inv M2 → AWP (FL L xs) tL 1638 (lvL j) [] M2) : AWP (FL L xs) tL 923 (lvL j) [] M := by
  obtain ⟨p5, p6, he, hJ⟩ := ok_kindFor ((av xs j 1)) ((av xs j 2)) hI
  refine r_aload_n FL.bs dL_law_923 rfl 2 rfl ?_
  refine l_arg hj hL 1 (by omega) dL_law_924 dL_law_925 dL_law_926 dL_law_927 dL_law_928 (by decide) ?_
  refine l_arg hj hL 2 (by omega) dL_law_929 dL_law_930 dL_law_931 dL_law_932 dL_law_933 (by decide) ?_
  refine r_callV_v FL.bs (st := []) dL_law_934 (ctX5_kindFor ((av xs j 1)) ((av xs j 2)) M p5) miX5_kindFor wd_669 rfl (Nat.le_of_ble_eq_true rfl) rfl (Nat.le_of_ble_eq_true rfl) rfl rfl rfl ?_
  refine r_aload_n FL.bs dL_law_937 rfl 1 rfl ?_
  refine l_arg hj hL 1 (by omega) dL_law_938 dL_law_939 dL_law_940 dL_law_941 dL_law_942 (by decide) ?_
  refine l_arg hj hL 2 (by omega) dL_law_943 dL_law_944 dL_law_945 dL_law_946 dL_law_947 (by decide) ?_
  refine r_callV_v FL.bs (st := [.int (mX5_kindFor ((av xs j 1)) ((av xs j 2)) M).1]) dL_law_948 (ctX6_kindFor ((av xs j 1)) ((av xs j 2)) ((mX5_kindFor ((av xs j 1)) ((av xs j 2)) M).2) p6) miX6_kindFor wd_1237 rfl (Nat.le_of_ble_eq_true rfl) rfl (Nat.le_of_ble_eq_true rfl) rfl rfl rfl ?_
  refine r_icmp_eq_t FL.bs (tgt := 1638) dL_law_951 (by decide) he ?_
  exact kk _ hJ
theorem lc_24 {L : Nat} {xs : Nat → Int32} {j : Nat} {M : Mem} (hj : j + 5 ≤ L) (hL : L ≤ 2560) (hI : Inv M) (kk : ∀ M2 : Mem, Inv M2 → AWP (FL L xs) tL 1638 (lvL j) [] M2) : AWP (FL L xs) tL 956 (lvL j) [] M := by
  obtain ⟨p5, p6, he, hJ⟩ := ok_seen ((av xs j 1)) hI
  refine r_aload_n FL.bs dL_law_956 rfl 2 rfl ?_
  refine l_arg hj hL 1 (by omega) dL_law_957 dL_law_958 dL_law_959 dL_law_960 dL_law_961 (by decide) ?_
  refine r_callV_v FL.bs (st := []) dL_law_962 (ctX5_seen ((av xs j 1)) M p5) miX5_seen wd_673 rfl (Nat.le_of_ble_eq_true rfl) rfl (Nat.le_of_ble_eq_true rfl) rfl rfl rfl ?_
  refine r_aload_n FL.bs dL_law_965 rfl 1 rfl ?_
  refine l_arg hj hL 1 (by omega) dL_law_966 dL_law_967 dL_law_968 dL_law_969 dL_law_970 (by decide) ?_
  refine r_callV_v FL.bs (st := [.int (mX5_seen ((av xs j 1)) M).1]) dL_law_971 (ctX6_seen ((av xs j 1)) ((mX5_seen ((av xs j 1)) M).2) p6) miX6_seen wd_1241 rfl (Nat.le_of_ble_eq_true rfl) rfl (Nat.le_of_ble_eq_true rfl) rfl rfl rfl ?_
  refine r_icmp_eq_t FL.bs (tgt := 1638) dL_law_974 (by decide) he ?_
  exact kk _ hJ
theorem lc_25 {L : Nat} {xs : Nat → Int32} {j : Nat} {M : Mem} (hj : j + 5 ≤ L) (hL : L ≤ 2560) (hI : Inv M) (kk : ∀ M2 : Mem, Inv M2 → AWP (FL L xs) tL 1638 (lvL j) [] M2) : AWP (FL L xs) tL 979 (lvL j) [] M := by
  obtain ⟨p5, p6, he⟩ := ok_dryWay ((av xs j 1)) ((av xs j 2)) hI
  refine r_aload_n FL.bs dL_law_979 rfl 2 rfl ?_
  refine l_arg hj hL 1 (by omega) dL_law_980 dL_law_981 dL_law_982 dL_law_983 dL_law_984 (by decide) ?_
  refine l_arg hj hL 2 (by omega) dL_law_985 dL_law_986 dL_law_987 dL_law_988 dL_law_989 (by decide) ?_
  refine r_callV_v FL.bs (st := []) dL_law_990 (ctX5_dryWay ((av xs j 1)) ((av xs j 2)) M p5) miX5_dryWay wd_682 rfl (Nat.le_of_ble_eq_true rfl) rfl (Nat.le_of_ble_eq_true rfl) rfl rfl rfl ?_
  refine r_aload_n FL.bs dL_law_993 rfl 1 rfl ?_
  refine l_arg hj hL 1 (by omega) dL_law_994 dL_law_995 dL_law_996 dL_law_997 dL_law_998 (by decide) ?_
  refine l_arg hj hL 2 (by omega) dL_law_999 dL_law_1000 dL_law_1001 dL_law_1002 dL_law_1003 (by decide) ?_
  refine r_callV_v FL.bs (st := [.int (mX5_dryWay ((av xs j 1)) ((av xs j 2)) M)]) dL_law_1004 (ctX6_dryWay ((av xs j 1)) ((av xs j 2)) M p6) miX6_dryWay wd_1245 rfl (Nat.le_of_ble_eq_true rfl) rfl (Nat.le_of_ble_eq_true rfl) rfl rfl rfl ?_
  refine r_icmp_eq_t FL.bs (tgt := 1638) dL_law_1007 (by decide) he ?_
  exact kk _ hI
theorem lc_26 {L : Nat} {xs : Nat → Int32} {j : Nat} {M : Mem} (hj : j + 5 ≤ L) (hL : L ≤ 2560) (hI : Inv M) (kk : ∀ M2 : Mem, Inv M2 → AWP (FL L xs) tL 1638 (lvL j) [] M2) : AWP (FL L xs) tL 1012 (lvL j) [] M := by
  obtain ⟨p5, p6, he, hJ⟩ := ok_fits ((av xs j 1)) ((av xs j 2)) ((av xs j 3)) hI
  refine r_aload_n FL.bs dL_law_1012 rfl 2 rfl ?_
  refine l_arg hj hL 1 (by omega) dL_law_1013 dL_law_1014 dL_law_1015 dL_law_1016 dL_law_1017 (by decide) ?_
  refine l_arg hj hL 2 (by omega) dL_law_1018 dL_law_1019 dL_law_1020 dL_law_1021 dL_law_1022 (by decide) ?_
  refine l_arg hj hL 3 (by omega) dL_law_1023 dL_law_1024 dL_law_1025 dL_law_1026 dL_law_1027 (by decide) ?_
  refine r_callV_v FL.bs (st := []) dL_law_1028 (ctX5_fits ((av xs j 1)) ((av xs j 2)) ((av xs j 3)) M p5) miX5_fits wd_694 rfl (Nat.le_of_ble_eq_true rfl) rfl (Nat.le_of_ble_eq_true rfl) rfl rfl rfl ?_
  refine r_aload_n FL.bs dL_law_1031 rfl 1 rfl ?_
  refine l_arg hj hL 1 (by omega) dL_law_1032 dL_law_1033 dL_law_1034 dL_law_1035 dL_law_1036 (by decide) ?_
  refine l_arg hj hL 2 (by omega) dL_law_1037 dL_law_1038 dL_law_1039 dL_law_1040 dL_law_1041 (by decide) ?_
  refine l_arg hj hL 3 (by omega) dL_law_1042 dL_law_1043 dL_law_1044 dL_law_1045 dL_law_1046 (by decide) ?_
  refine r_callV_v FL.bs (st := [.int (mX5_fits ((av xs j 1)) ((av xs j 2)) ((av xs j 3)) M).1]) dL_law_1047 (ctX6_fits ((av xs j 1)) ((av xs j 2)) ((av xs j 3)) ((mX5_fits ((av xs j 1)) ((av xs j 2)) ((av xs j 3)) M).2) p6) miX6_fits wd_1249 rfl (Nat.le_of_ble_eq_true rfl) rfl (Nat.le_of_ble_eq_true rfl) rfl rfl rfl ?_
  refine r_icmp_eq_t FL.bs (tgt := 1638) dL_law_1050 (by decide) he ?_
  exact kk _ hJ
theorem lc_27 {L : Nat} {xs : Nat → Int32} {j : Nat} {M : Mem} (hj : j + 5 ≤ L) (hL : L ≤ 2560) (hI : Inv M) (kk : ∀ M2 : Mem, Inv M2 → AWP (FL L xs) tL 1638 (lvL j) [] M2) : AWP (FL L xs) tL 1055 (lvL j) [] M := by
  obtain ⟨p5, p6, he⟩ := ok_odds ((av xs j 1)) ((av xs j 2)) ((av xs j 3)) hI
  refine r_aload_n FL.bs dL_law_1055 rfl 2 rfl ?_
  refine l_arg hj hL 1 (by omega) dL_law_1056 dL_law_1057 dL_law_1058 dL_law_1059 dL_law_1060 (by decide) ?_
  refine l_arg hj hL 2 (by omega) dL_law_1061 dL_law_1062 dL_law_1063 dL_law_1064 dL_law_1065 (by decide) ?_
  refine l_arg hj hL 3 (by omega) dL_law_1066 dL_law_1067 dL_law_1068 dL_law_1069 dL_law_1070 (by decide) ?_
  refine r_callV_v FL.bs (st := []) dL_law_1071 (ctX5_odds ((av xs j 1)) ((av xs j 2)) ((av xs j 3)) M p5) miX5_odds wd_710 rfl (Nat.le_of_ble_eq_true rfl) rfl (Nat.le_of_ble_eq_true rfl) rfl rfl rfl ?_
  refine r_aload_n FL.bs dL_law_1074 rfl 1 rfl ?_
  refine l_arg hj hL 1 (by omega) dL_law_1075 dL_law_1076 dL_law_1077 dL_law_1078 dL_law_1079 (by decide) ?_
  refine l_arg hj hL 2 (by omega) dL_law_1080 dL_law_1081 dL_law_1082 dL_law_1083 dL_law_1084 (by decide) ?_
  refine l_arg hj hL 3 (by omega) dL_law_1085 dL_law_1086 dL_law_1087 dL_law_1088 dL_law_1089 (by decide) ?_
  refine r_callV_v FL.bs (st := [.long (mX5_odds ((av xs j 1)) ((av xs j 2)) ((av xs j 3)) M)]) dL_law_1090 (ctX6_odds ((av xs j 1)) ((av xs j 2)) ((av xs j 3)) M p6) miX6_odds wd_1260 rfl (Nat.le_of_ble_eq_true rfl) rfl (Nat.le_of_ble_eq_true rfl) rfl rfl rfl ?_
  refine r_lcmp FL.bs dL_law_1093 ?_
  refine r_if_eq_t FL.bs (tgt := 1638) dL_law_1094 (by decide) (cmp_eq he) ?_
  exact kk _ hI
theorem lc_28 {L : Nat} {xs : Nat → Int32} {j : Nat} {M : Mem} (hj : j + 5 ≤ L) (hL : L ≤ 2560) (hI : Inv M) (kk : ∀ M2 : Mem, Inv M2 → AWP (FL L xs) tL 1638 (lvL j) [] M2) : AWP (FL L xs) tL 1099 (lvL j) [] M := by
  obtain ⟨p5, p6, he⟩ := ok_hope ((av xs j 1)) ((av xs j 2)) hI
  refine r_aload_n FL.bs dL_law_1099 rfl 2 rfl ?_
  refine l_arg hj hL 1 (by omega) dL_law_1100 dL_law_1101 dL_law_1102 dL_law_1103 dL_law_1104 (by decide) ?_
  refine l_arg hj hL 2 (by omega) dL_law_1105 dL_law_1106 dL_law_1107 dL_law_1108 dL_law_1109 (by decide) ?_
  refine r_callV_v FL.bs (st := []) dL_law_1110 (ctX5_hope ((av xs j 1)) ((av xs j 2)) M p5) miX5_hope wd_731 rfl (Nat.le_of_ble_eq_true rfl) rfl (Nat.le_of_ble_eq_true rfl) rfl rfl rfl ?_
  refine r_aload_n FL.bs dL_law_1113 rfl 1 rfl ?_
  refine l_arg hj hL 1 (by omega) dL_law_1114 dL_law_1115 dL_law_1116 dL_law_1117 dL_law_1118 (by decide) ?_
  refine l_arg hj hL 2 (by omega) dL_law_1119 dL_law_1120 dL_law_1121 dL_law_1122 dL_law_1123 (by decide) ?_
  refine r_callV_v FL.bs (st := [.long (mX5_hope ((av xs j 1)) ((av xs j 2)) M)]) dL_law_1124 (ctX6_hope ((av xs j 1)) ((av xs j 2)) M p6) miX6_hope wd_1272 rfl (Nat.le_of_ble_eq_true rfl) rfl (Nat.le_of_ble_eq_true rfl) rfl rfl rfl ?_
  refine r_lcmp FL.bs dL_law_1127 ?_
  refine r_if_eq_t FL.bs (tgt := 1638) dL_law_1128 (by decide) (cmp_eq he) ?_
  exact kk _ hI
theorem lc_29 {L : Nat} {xs : Nat → Int32} {j : Nat} {M : Mem} (hj : j + 5 ≤ L) (hL : L ≤ 2560) (hI : Inv M) (kk : ∀ M2 : Mem, Inv M2 → AWP (FL L xs) tL 1638 (lvL j) [] M2) : AWP (FL L xs) tL 1133 (lvL j) [] M := by
  obtain ⟨p5, p6, he, hJ⟩ := ok_prove ((av xs j 1)) ((av xs j 2)) hI
  refine r_aload_n FL.bs dL_law_1133 rfl 2 rfl ?_
  refine l_arg hj hL 1 (by omega) dL_law_1134 dL_law_1135 dL_law_1136 dL_law_1137 dL_law_1138 (by decide) ?_
  refine l_arg hj hL 2 (by omega) dL_law_1139 dL_law_1140 dL_law_1141 dL_law_1142 dL_law_1143 (by decide) ?_
  refine r_callV_v FL.bs (st := []) dL_law_1144 (ctX5_prove ((av xs j 1)) ((av xs j 2)) M p5) miX5_prove wd_735 rfl (Nat.le_of_ble_eq_true rfl) rfl (Nat.le_of_ble_eq_true rfl) rfl rfl rfl ?_
  refine r_aload_n FL.bs dL_law_1147 rfl 1 rfl ?_
  refine l_arg hj hL 1 (by omega) dL_law_1148 dL_law_1149 dL_law_1150 dL_law_1151 dL_law_1152 (by decide) ?_
  refine l_arg hj hL 2 (by omega) dL_law_1153 dL_law_1154 dL_law_1155 dL_law_1156 dL_law_1157 (by decide) ?_
  refine r_callV_v FL.bs (st := [.int (mX5_prove ((av xs j 1)) ((av xs j 2)) M).1]) dL_law_1158 (ctX6_prove ((av xs j 1)) ((av xs j 2)) ((mX5_prove ((av xs j 1)) ((av xs j 2)) M).2) p6) miX6_prove wd_1276 rfl (Nat.le_of_ble_eq_true rfl) rfl (Nat.le_of_ble_eq_true rfl) rfl rfl rfl ?_
  refine r_icmp_eq_t FL.bs (tgt := 1638) dL_law_1161 (by decide) he ?_
  exact kk _ hJ
theorem lc_30 {L : Nat} {xs : Nat → Int32} {j : Nat} {M : Mem} (hj : j + 5 ≤ L) (hL : L ≤ 2560) (hI : Inv M) (kk : ∀ M2 : Mem, Inv M2 → AWP (FL L xs) tL 1638 (lvL j) [] M2) : AWP (FL L xs) tL 1166 (lvL j) [] M := by
  obtain ⟨p5, p6, he⟩ := ok_row ((av xs j 1)) ((av xs j 2)) hI
  refine r_aload_n FL.bs dL_law_1166 rfl 2 rfl ?_
  refine l_arg hj hL 1 (by omega) dL_law_1167 dL_law_1168 dL_law_1169 dL_law_1170 dL_law_1171 (by decide) ?_
  refine l_arg hj hL 2 (by omega) dL_law_1172 dL_law_1173 dL_law_1174 dL_law_1175 dL_law_1176 (by decide) ?_
  refine r_callV_v FL.bs (st := []) dL_law_1177 (ctX5_row ((av xs j 1)) ((av xs j 2)) M p5) miX5_row wd_744 rfl (Nat.le_of_ble_eq_true rfl) rfl (Nat.le_of_ble_eq_true rfl) rfl rfl rfl ?_
  refine r_aload_n FL.bs dL_law_1180 rfl 1 rfl ?_
  refine l_arg hj hL 1 (by omega) dL_law_1181 dL_law_1182 dL_law_1183 dL_law_1184 dL_law_1185 (by decide) ?_
  refine l_arg hj hL 2 (by omega) dL_law_1186 dL_law_1187 dL_law_1188 dL_law_1189 dL_law_1190 (by decide) ?_
  refine r_callV_v FL.bs (st := [.int (mX5_row ((av xs j 1)) ((av xs j 2)) M)]) dL_law_1191 (ctX6_row ((av xs j 1)) ((av xs j 2)) M p6) miX6_row wd_1281 rfl (Nat.le_of_ble_eq_true rfl) rfl (Nat.le_of_ble_eq_true rfl) rfl rfl rfl ?_
  refine r_icmp_eq_t FL.bs (tgt := 1638) dL_law_1194 (by decide) he ?_
  exact kk _ hI
theorem lc_31 {L : Nat} {xs : Nat → Int32} {j : Nat} {M : Mem} (hj : j + 5 ≤ L) (hL : L ≤ 2560) (hI : Inv M) (kk : ∀ M2 : Mem, Inv M2 → AWP (FL L xs) tL 1638 (lvL j) [] M2) : AWP (FL L xs) tL 1199 (lvL j) [] M := by
  obtain ⟨p5, p6, he, hJ⟩ := ok_alterRow ((av xs j 1)) ((av xs j 2)) ((av xs j 3)) hI
  refine r_aload_n FL.bs dL_law_1199 rfl 2 rfl ?_
  refine l_arg hj hL 1 (by omega) dL_law_1200 dL_law_1201 dL_law_1202 dL_law_1203 dL_law_1204 (by decide) ?_
  refine l_arg hj hL 2 (by omega) dL_law_1205 dL_law_1206 dL_law_1207 dL_law_1208 dL_law_1209 (by decide) ?_
  refine l_arg hj hL 3 (by omega) dL_law_1210 dL_law_1211 dL_law_1212 dL_law_1213 dL_law_1214 (by decide) ?_
  refine r_callV_v FL.bs (st := []) dL_law_1215 (ctX5_alterRow ((av xs j 1)) ((av xs j 2)) ((av xs j 3)) M p5) miX5_alterRow wd_752 rfl (Nat.le_of_ble_eq_true rfl) rfl (Nat.le_of_ble_eq_true rfl) rfl rfl rfl ?_
  refine r_aload_n FL.bs dL_law_1218 rfl 1 rfl ?_
  refine l_arg hj hL 1 (by omega) dL_law_1219 dL_law_1220 dL_law_1221 dL_law_1222 dL_law_1223 (by decide) ?_
  refine l_arg hj hL 2 (by omega) dL_law_1224 dL_law_1225 dL_law_1226 dL_law_1227 dL_law_1228 (by decide) ?_
  refine l_arg hj hL 3 (by omega) dL_law_1229 dL_law_1230 dL_law_1231 dL_law_1232 dL_law_1233 (by decide) ?_
  refine r_callV_v FL.bs (st := [.int (mX5_alterRow ((av xs j 1)) ((av xs j 2)) ((av xs j 3)) M).1]) dL_law_1234 (ctX6_alterRow ((av xs j 1)) ((av xs j 2)) ((av xs j 3)) ((mX5_alterRow ((av xs j 1)) ((av xs j 2)) ((av xs j 3)) M).2) p6) miX6_alterRow wd_1290 rfl (Nat.le_of_ble_eq_true rfl) rfl (Nat.le_of_ble_eq_true rfl) rfl rfl rfl ?_
  refine r_icmp_eq_t FL.bs (tgt := 1638) dL_law_1237 (by decide) he ?_
  exact kk _ hJ
theorem lc_32 {L : Nat} {xs : Nat → Int32} {j : Nat} {M : Mem} (hj : j + 5 ≤ L) (hL : L ≤ 2560) (hI : Inv M) (kk : ∀ M2 : Mem, Inv M2 → AWP (FL L xs) tL 1638 (lvL j) [] M2) : AWP (FL L xs) tL 1242 (lvL j) [] M := by
  obtain ⟨p5, p6, he, hJ⟩ := ok_judge ((av xs j 1)) hI
  refine r_aload_n FL.bs dL_law_1242 rfl 2 rfl ?_
  refine l_arg hj hL 1 (by omega) dL_law_1243 dL_law_1244 dL_law_1245 dL_law_1246 dL_law_1247 (by decide) ?_
  refine r_callV_v FL.bs (st := []) dL_law_1248 (ctX5_judge ((av xs j 1)) M p5) miX5_judge wd_756 rfl (Nat.le_of_ble_eq_true rfl) rfl (Nat.le_of_ble_eq_true rfl) rfl rfl rfl ?_
  refine r_aload_n FL.bs dL_law_1251 rfl 1 rfl ?_
  refine l_arg hj hL 1 (by omega) dL_law_1252 dL_law_1253 dL_law_1254 dL_law_1255 dL_law_1256 (by decide) ?_
  refine r_callV_v FL.bs (st := [.int (mX5_judge ((av xs j 1)) M).1]) dL_law_1257 (ctX6_judge ((av xs j 1)) ((mX5_judge ((av xs j 1)) M).2) p6) miX6_judge wd_1294 rfl (Nat.le_of_ble_eq_true rfl) rfl (Nat.le_of_ble_eq_true rfl) rfl rfl rfl ?_
  refine r_icmp_eq_t FL.bs (tgt := 1638) dL_law_1260 (by decide) he ?_
  exact kk _ hJ
theorem lc_33 {L : Nat} {xs : Nat → Int32} {j : Nat} {M : Mem} (hj : j + 5 ≤ L) (hL : L ≤ 2560) (hI : Inv M) (kk : ∀ M2 : Mem, Inv M2 → AWP (FL L xs) tL 1638 (lvL j) [] M2) : AWP (FL L xs) tL 1265 (lvL j) [] M := by
  obtain ⟨p5, p6, he, hJ⟩ := ok_minds ((av xs j 1)) ((av xs j 2)) ((av xs j 3)) ((av xs j 4)) hI
  refine r_aload_n FL.bs dL_law_1265 rfl 2 rfl ?_
  refine l_arg hj hL 1 (by omega) dL_law_1266 dL_law_1267 dL_law_1268 dL_law_1269 dL_law_1270 (by decide) ?_
  refine l_arg hj hL 2 (by omega) dL_law_1271 dL_law_1272 dL_law_1273 dL_law_1274 dL_law_1275 (by decide) ?_
  refine l_arg hj hL 3 (by omega) dL_law_1276 dL_law_1277 dL_law_1278 dL_law_1279 dL_law_1280 (by decide) ?_
  refine l_arg hj hL 4 (by omega) dL_law_1281 dL_law_1282 dL_law_1283 dL_law_1284 dL_law_1285 (by decide) ?_
  refine r_callV_v FL.bs (st := []) dL_law_1286 (ctX5_minds ((av xs j 1)) ((av xs j 2)) ((av xs j 3)) ((av xs j 4)) M p5) miX5_minds wd_760 rfl (Nat.le_of_ble_eq_true rfl) rfl (Nat.le_of_ble_eq_true rfl) rfl rfl rfl ?_
  refine r_aload_n FL.bs dL_law_1289 rfl 1 rfl ?_
  refine l_arg hj hL 1 (by omega) dL_law_1290 dL_law_1291 dL_law_1292 dL_law_1293 dL_law_1294 (by decide) ?_
  refine l_arg hj hL 2 (by omega) dL_law_1295 dL_law_1296 dL_law_1297 dL_law_1298 dL_law_1299 (by decide) ?_
  refine l_arg hj hL 3 (by omega) dL_law_1300 dL_law_1301 dL_law_1302 dL_law_1303 dL_law_1304 (by decide) ?_
  refine l_arg hj hL 4 (by omega) dL_law_1305 dL_law_1306 dL_law_1307 dL_law_1308 dL_law_1309 (by decide) ?_
  refine r_callV_v FL.bs (st := [.int (mX5_minds ((av xs j 1)) ((av xs j 2)) ((av xs j 3)) ((av xs j 4)) M).1]) dL_law_1310 (ctX6_minds ((av xs j 1)) ((av xs j 2)) ((av xs j 3)) ((av xs j 4)) ((mX5_minds ((av xs j 1)) ((av xs j 2)) ((av xs j 3)) ((av xs j 4)) M).2) p6) miX6_minds wd_1314 rfl (Nat.le_of_ble_eq_true rfl) rfl (Nat.le_of_ble_eq_true rfl) rfl rfl rfl ?_
  refine r_icmp_eq_t FL.bs (tgt := 1638) dL_law_1313 (by decide) he ?_
  exact kk _ hJ
theorem lc_34 {L : Nat} {xs : Nat → Int32} {j : Nat} {M : Mem} (hj : j + 5 ≤ L) (hL : L ≤ 2560) (hI : Inv M) (kk : ∀ M2 : Mem, Inv M2 → AWP (FL L xs) tL 1638 (lvL j) [] M2) : AWP (FL L xs) tL 1318 (lvL j) [] M := by
  obtain ⟨p5, p6, he, hJ⟩ := ok_sheet ((av xs j 1)) ((av xs j 2)) ((av xs j 3)) hI
  refine r_aload_n FL.bs dL_law_1318 rfl 2 rfl ?_
  refine l_arg hj hL 1 (by omega) dL_law_1319 dL_law_1320 dL_law_1321 dL_law_1322 dL_law_1323 (by decide) ?_
  refine l_arg hj hL 2 (by omega) dL_law_1324 dL_law_1325 dL_law_1326 dL_law_1327 dL_law_1328 (by decide) ?_
  refine l_arg hj hL 3 (by omega) dL_law_1329 dL_law_1330 dL_law_1331 dL_law_1332 dL_law_1333 (by decide) ?_
  refine r_callV_v FL.bs (st := []) dL_law_1334 (ctX5_sheet ((av xs j 1)) ((av xs j 2)) ((av xs j 3)) M p5) miX5_sheet wd_765 rfl (Nat.le_of_ble_eq_true rfl) rfl (Nat.le_of_ble_eq_true rfl) rfl rfl rfl ?_
  refine r_aload_n FL.bs dL_law_1337 rfl 1 rfl ?_
  refine l_arg hj hL 1 (by omega) dL_law_1338 dL_law_1339 dL_law_1340 dL_law_1341 dL_law_1342 (by decide) ?_
  refine l_arg hj hL 2 (by omega) dL_law_1343 dL_law_1344 dL_law_1345 dL_law_1346 dL_law_1347 (by decide) ?_
  refine l_arg hj hL 3 (by omega) dL_law_1348 dL_law_1349 dL_law_1350 dL_law_1351 dL_law_1352 (by decide) ?_
  refine r_callV_v FL.bs (st := [.int (mX5_sheet ((av xs j 1)) ((av xs j 2)) ((av xs j 3)) M).1]) dL_law_1353 (ctX6_sheet ((av xs j 1)) ((av xs j 2)) ((av xs j 3)) ((mX5_sheet ((av xs j 1)) ((av xs j 2)) ((av xs j 3)) M).2) p6) miX6_sheet wd_1298 rfl (Nat.le_of_ble_eq_true rfl) rfl (Nat.le_of_ble_eq_true rfl) rfl rfl rfl ?_
  refine r_icmp_eq_t FL.bs (tgt := 1638) dL_law_1356 (by decide) he ?_
  exact kk _ hJ
theorem lc_35 {L : Nat} {xs : Nat → Int32} {j : Nat} {M : Mem} (hj : j + 5 ≤ L) (hL : L ≤ 2560) (hI : Inv M) (kk : ∀ M2 : Mem, Inv M2 → AWP (FL L xs) tL 1638 (lvL j) [] M2) : AWP (FL L xs) tL 1361 (lvL j) [] M := by
  obtain ⟨p5, p6, he, hJ⟩ := ok_put ((av xs j 1)) ((av xs j 2)) ((av xs j 3)) hI
  refine r_aload_n FL.bs dL_law_1361 rfl 2 rfl ?_
  refine l_arg hj hL 1 (by omega) dL_law_1362 dL_law_1363 dL_law_1364 dL_law_1365 dL_law_1366 (by decide) ?_
  refine l_arg hj hL 2 (by omega) dL_law_1367 dL_law_1368 dL_law_1369 dL_law_1370 dL_law_1371 (by decide) ?_
  refine l_arg hj hL 3 (by omega) dL_law_1372 dL_law_1373 dL_law_1374 dL_law_1375 dL_law_1376 (by decide) ?_
  refine r_callV_v FL.bs (st := []) dL_law_1377 (ctX5_put ((av xs j 1)) ((av xs j 2)) ((av xs j 3)) M p5) miX5_put wd_774 rfl (Nat.le_of_ble_eq_true rfl) rfl (Nat.le_of_ble_eq_true rfl) rfl rfl rfl ?_
  refine r_aload_n FL.bs dL_law_1380 rfl 1 rfl ?_
  refine l_arg hj hL 1 (by omega) dL_law_1381 dL_law_1382 dL_law_1383 dL_law_1384 dL_law_1385 (by decide) ?_
  refine l_arg hj hL 2 (by omega) dL_law_1386 dL_law_1387 dL_law_1388 dL_law_1389 dL_law_1390 (by decide) ?_
  refine l_arg hj hL 3 (by omega) dL_law_1391 dL_law_1392 dL_law_1393 dL_law_1394 dL_law_1395 (by decide) ?_
  refine r_callV_v FL.bs (st := [.int (mX5_put ((av xs j 1)) ((av xs j 2)) ((av xs j 3)) M).1]) dL_law_1396 (ctX6_put ((av xs j 1)) ((av xs j 2)) ((av xs j 3)) ((mX5_put ((av xs j 1)) ((av xs j 2)) ((av xs j 3)) M).2) p6) miX6_put wd_1302 rfl (Nat.le_of_ble_eq_true rfl) rfl (Nat.le_of_ble_eq_true rfl) rfl rfl rfl ?_
  refine r_icmp_eq_t FL.bs (tgt := 1638) dL_law_1399 (by decide) he ?_
  exact kk _ hJ
theorem lc_36 {L : Nat} {xs : Nat → Int32} {j : Nat} {M : Mem} (hj : j + 5 ≤ L) (hL : L ≤ 2560) (hI : Inv M) (kk : ∀ M2 : Mem, Inv M2 → AWP (FL L xs) tL 1638 (lvL j) [] M2) : AWP (FL L xs) tL 1404 (lvL j) [] M := by
  obtain ⟨p5, p6, he⟩ := ok_item ((av xs j 1)) ((av xs j 2)) ((av xs j 3)) hI
  refine r_aload_n FL.bs dL_law_1404 rfl 2 rfl ?_
  refine l_arg hj hL 1 (by omega) dL_law_1405 dL_law_1406 dL_law_1407 dL_law_1408 dL_law_1409 (by decide) ?_
  refine l_arg hj hL 2 (by omega) dL_law_1410 dL_law_1411 dL_law_1412 dL_law_1413 dL_law_1414 (by decide) ?_
  refine l_arg hj hL 3 (by omega) dL_law_1415 dL_law_1416 dL_law_1417 dL_law_1418 dL_law_1419 (by decide) ?_
  refine r_callV_v FL.bs (st := []) dL_law_1420 (ctX5_item ((av xs j 1)) ((av xs j 2)) ((av xs j 3)) M p5) miX5_item wd_787 rfl (Nat.le_of_ble_eq_true rfl) rfl (Nat.le_of_ble_eq_true rfl) rfl rfl rfl ?_
  refine r_aload_n FL.bs dL_law_1423 rfl 1 rfl ?_
  refine l_arg hj hL 1 (by omega) dL_law_1424 dL_law_1425 dL_law_1426 dL_law_1427 dL_law_1428 (by decide) ?_
  refine l_arg hj hL 2 (by omega) dL_law_1429 dL_law_1430 dL_law_1431 dL_law_1432 dL_law_1433 (by decide) ?_
  refine l_arg hj hL 3 (by omega) dL_law_1434 dL_law_1435 dL_law_1436 dL_law_1437 dL_law_1438 (by decide) ?_
  refine r_callV_v FL.bs (st := [.int (mX5_item ((av xs j 1)) ((av xs j 2)) ((av xs j 3)) M)]) dL_law_1439 (ctX6_item ((av xs j 1)) ((av xs j 2)) ((av xs j 3)) M p6) miX6_item wd_1306 rfl (Nat.le_of_ble_eq_true rfl) rfl (Nat.le_of_ble_eq_true rfl) rfl rfl rfl ?_
  refine r_icmp_eq_t FL.bs (tgt := 1638) dL_law_1442 (by decide) he ?_
  exact kk _ hI
theorem lc_37 {L : Nat} {xs : Nat → Int32} {j : Nat} {M : Mem} (hj : j + 5 ≤ L) (hL : L ≤ 2560) (hI : Inv M) (kk : ∀ M2 : Mem, Inv M2 → AWP (FL L xs) tL 1638 (lvL j) [] M2) : AWP (FL L xs) tL 1447 (lvL j) [] M := by
  obtain ⟨p5, p6, he, hJ⟩ := ok_shelf ((av xs j 1)) ((av xs j 2)) ((av xs j 3)) hI
  refine r_aload_n FL.bs dL_law_1447 rfl 2 rfl ?_
  refine l_arg hj hL 1 (by omega) dL_law_1448 dL_law_1449 dL_law_1450 dL_law_1451 dL_law_1452 (by decide) ?_
  refine l_arg hj hL 2 (by omega) dL_law_1453 dL_law_1454 dL_law_1455 dL_law_1456 dL_law_1457 (by decide) ?_
  refine l_arg hj hL 3 (by omega) dL_law_1458 dL_law_1459 dL_law_1460 dL_law_1461 dL_law_1462 (by decide) ?_
  refine r_callV_v FL.bs (st := []) dL_law_1463 (ctX5_shelf ((av xs j 1)) ((av xs j 2)) ((av xs j 3)) M p5) miX5_shelf wd_791 rfl (Nat.le_of_ble_eq_true rfl) rfl (Nat.le_of_ble_eq_true rfl) rfl rfl rfl ?_
  refine r_aload_n FL.bs dL_law_1466 rfl 1 rfl ?_
  refine l_arg hj hL 1 (by omega) dL_law_1467 dL_law_1468 dL_law_1469 dL_law_1470 dL_law_1471 (by decide) ?_
  refine l_arg hj hL 2 (by omega) dL_law_1472 dL_law_1473 dL_law_1474 dL_law_1475 dL_law_1476 (by decide) ?_
  refine l_arg hj hL 3 (by omega) dL_law_1477 dL_law_1478 dL_law_1479 dL_law_1480 dL_law_1481 (by decide) ?_
  refine r_callV_v FL.bs (st := [.int (mX5_shelf ((av xs j 1)) ((av xs j 2)) ((av xs j 3)) M).1]) dL_law_1482 (ctX6_shelf ((av xs j 1)) ((av xs j 2)) ((av xs j 3)) ((mX5_shelf ((av xs j 1)) ((av xs j 2)) ((av xs j 3)) M).2) p6) miX6_shelf wd_1321 rfl (Nat.le_of_ble_eq_true rfl) rfl (Nat.le_of_ble_eq_true rfl) rfl rfl rfl ?_
  refine r_icmp_eq_t FL.bs (tgt := 1638) dL_law_1485 (by decide) he ?_
  exact kk _ hJ
theorem lc_38 {L : Nat} {xs : Nat → Int32} {j : Nat} {M : Mem} (hj : j + 5 ≤ L) (hL : L ≤ 2560) (hI : Inv M) (kk : ∀ M2 : Mem, Inv M2 → AWP (FL L xs) tL 1638 (lvL j) [] M2) : AWP (FL L xs) tL 1490 (lvL j) [] M := by
  obtain ⟨p5, p6, he⟩ := ok_taken ((av xs j 1)) ((av xs j 2)) hI
  refine r_aload_n FL.bs dL_law_1490 rfl 2 rfl ?_
  refine l_arg hj hL 1 (by omega) dL_law_1491 dL_law_1492 dL_law_1493 dL_law_1494 dL_law_1495 (by decide) ?_
  refine l_arg hj hL 2 (by omega) dL_law_1496 dL_law_1497 dL_law_1498 dL_law_1499 dL_law_1500 (by decide) ?_
  refine r_callV_v FL.bs (st := []) dL_law_1501 (ctX5_taken ((av xs j 1)) ((av xs j 2)) M p5) miX5_taken wd_808 rfl (Nat.le_of_ble_eq_true rfl) rfl (Nat.le_of_ble_eq_true rfl) rfl rfl rfl ?_
  refine r_aload_n FL.bs dL_law_1504 rfl 1 rfl ?_
  refine l_arg hj hL 1 (by omega) dL_law_1505 dL_law_1506 dL_law_1507 dL_law_1508 dL_law_1509 (by decide) ?_
  refine l_arg hj hL 2 (by omega) dL_law_1510 dL_law_1511 dL_law_1512 dL_law_1513 dL_law_1514 (by decide) ?_
  refine r_callV_v FL.bs (st := [.int (mX5_taken ((av xs j 1)) ((av xs j 2)) M)]) dL_law_1515 (ctX6_taken ((av xs j 1)) ((av xs j 2)) M p6) miX6_taken wd_1328 rfl (Nat.le_of_ble_eq_true rfl) rfl (Nat.le_of_ble_eq_true rfl) rfl rfl rfl ?_
  refine r_icmp_eq_t FL.bs (tgt := 1638) dL_law_1518 (by decide) he ?_
  exact kk _ hI
theorem lc_39 {L : Nat} {xs : Nat → Int32} {j : Nat} {M : Mem} (hj : j + 5 ≤ L) (hL : L ≤ 2560) (hI : Inv M) (kk : ∀ M2 : Mem, Inv M2 → AWP (FL L xs) tL 1638 (lvL j) [] M2) : AWP (FL L xs) tL 1523 (lvL j) [] M := by
  obtain ⟨p5, p6, he, hJ⟩ := ok_act ((av xs j 1)) ((av xs j 2)) ((av xs j 3)) hI
  refine r_aload_n FL.bs dL_law_1523 rfl 2 rfl ?_
  refine l_arg hj hL 1 (by omega) dL_law_1524 dL_law_1525 dL_law_1526 dL_law_1527 dL_law_1528 (by decide) ?_
  refine l_arg hj hL 2 (by omega) dL_law_1529 dL_law_1530 dL_law_1531 dL_law_1532 dL_law_1533 (by decide) ?_
  refine l_arg hj hL 3 (by omega) dL_law_1534 dL_law_1535 dL_law_1536 dL_law_1537 dL_law_1538 (by decide) ?_
  refine r_callV_v FL.bs (st := []) dL_law_1539 (ctX5_act ((av xs j 1)) ((av xs j 2)) ((av xs j 3)) M p5) miX5_act wd_819 rfl (Nat.le_of_ble_eq_true rfl) rfl (Nat.le_of_ble_eq_true rfl) rfl rfl rfl ?_
  refine r_aload_n FL.bs dL_law_1542 rfl 1 rfl ?_
  refine l_arg hj hL 1 (by omega) dL_law_1543 dL_law_1544 dL_law_1545 dL_law_1546 dL_law_1547 (by decide) ?_
  refine l_arg hj hL 2 (by omega) dL_law_1548 dL_law_1549 dL_law_1550 dL_law_1551 dL_law_1552 (by decide) ?_
  refine l_arg hj hL 3 (by omega) dL_law_1553 dL_law_1554 dL_law_1555 dL_law_1556 dL_law_1557 (by decide) ?_
  refine r_callV_v FL.bs (st := [.int (mX5_act ((av xs j 1)) ((av xs j 2)) ((av xs j 3)) M).1]) dL_law_1558 (ctX6_act ((av xs j 1)) ((av xs j 2)) ((av xs j 3)) ((mX5_act ((av xs j 1)) ((av xs j 2)) ((av xs j 3)) M).2) p6) miX6_act wd_1341 rfl (Nat.le_of_ble_eq_true rfl) rfl (Nat.le_of_ble_eq_true rfl) rfl rfl rfl ?_
  refine r_icmp_eq_t FL.bs (tgt := 1638) dL_law_1561 (by decide) he ?_
  exact kk _ hJ
theorem lc_40 {L : Nat} {xs : Nat → Int32} {j : Nat} {M : Mem} (hj : j + 5 ≤ L) (hL : L ≤ 2560) (hI : Inv M) (kk : ∀ M2 : Mem, Inv M2 → AWP (FL L xs) tL 1638 (lvL j) [] M2) : AWP (FL L xs) tL 1566 (lvL j) [] M := by
  obtain ⟨p5, p6, he⟩ := ok_trace ((av xs j 1)) hI
  refine r_aload_n FL.bs dL_law_1566 rfl 2 rfl ?_
  refine l_arg hj hL 1 (by omega) dL_law_1567 dL_law_1568 dL_law_1569 dL_law_1570 dL_law_1571 (by decide) ?_
  refine r_callV_v FL.bs (st := []) dL_law_1572 (ctX5_trace ((av xs j 1)) M p5) miX5_trace wd_849 rfl (Nat.le_of_ble_eq_true rfl) rfl (Nat.le_of_ble_eq_true rfl) rfl rfl rfl ?_
  refine r_aload_n FL.bs dL_law_1575 rfl 1 rfl ?_
  refine l_arg hj hL 1 (by omega) dL_law_1576 dL_law_1577 dL_law_1578 dL_law_1579 dL_law_1580 (by decide) ?_
  refine r_callV_v FL.bs (st := [.int (mX5_trace ((av xs j 1)) M)]) dL_law_1581 (ctX6_trace ((av xs j 1)) M p6) miX6_trace wd_1385 rfl (Nat.le_of_ble_eq_true rfl) rfl (Nat.le_of_ble_eq_true rfl) rfl rfl rfl ?_
  refine r_icmp_eq_t FL.bs (tgt := 1638) dL_law_1584 (by decide) he ?_
  exact kk _ hI
theorem lc_41 {L : Nat} {xs : Nat → Int32} {j : Nat} {M : Mem} (hj : j + 5 ≤ L) (hL : L ≤ 2560) (hI : Inv M) (kk : ∀ M2 : Mem, Inv M2 → AWP (FL L xs) tL 1638 (lvL j) [] M2) : AWP (FL L xs) tL 1589 (lvL j) [] M := by
  obtain ⟨p5, p6, he⟩ := ok_many ((av xs j 1)) hI
  refine r_aload_n FL.bs dL_law_1589 rfl 2 rfl ?_
  refine l_arg hj hL 1 (by omega) dL_law_1590 dL_law_1591 dL_law_1592 dL_law_1593 dL_law_1594 (by decide) ?_
  refine r_callV_v FL.bs (st := []) dL_law_1595 (ctX5_many ((av xs j 1)) M p5) miX5_many wd_853 rfl (Nat.le_of_ble_eq_true rfl) rfl (Nat.le_of_ble_eq_true rfl) rfl rfl rfl ?_
  refine r_aload_n FL.bs dL_law_1598 rfl 1 rfl ?_
  refine l_arg hj hL 1 (by omega) dL_law_1599 dL_law_1600 dL_law_1601 dL_law_1602 dL_law_1603 (by decide) ?_
  refine r_callV_v FL.bs (st := [.int (mX5_many ((av xs j 1)) M)]) dL_law_1604 (ctX6_many ((av xs j 1)) M p6) miX6_many wd_1389 rfl (Nat.le_of_ble_eq_true rfl) rfl (Nat.le_of_ble_eq_true rfl) rfl rfl rfl ?_
  refine r_icmp_eq_t FL.bs (tgt := 1638) dL_law_1607 (by decide) he ?_
  exact kk _ hI
theorem lc_42 {L : Nat} {xs : Nat → Int32} {j : Nat} {M : Mem} (hj : j + 5 ≤ L) (hL : L ≤ 2560) (hI : Inv M) (kk : ∀ M2 : Mem, Inv M2 → AWP (FL L xs) tL 1638 (lvL j) [] M2) : AWP (FL L xs) tL 1612 (lvL j) [] M := by
  obtain ⟨p5, p6, he, hJ⟩ := ok_keep  hI
  refine r_aload_n FL.bs dL_law_1612 rfl 2 rfl ?_
  refine r_callV_v FL.bs (st := []) dL_law_1613 (ctX5_keep  M p5) miX5_keep wd_857 rfl (Nat.le_of_ble_eq_true rfl) rfl (Nat.le_of_ble_eq_true rfl) rfl rfl rfl ?_
  refine r_aload_n FL.bs dL_law_1616 rfl 1 rfl ?_
  refine r_callV_v FL.bs (st := [.int (mX5_keep  M).1]) dL_law_1617 (ctX6_keep  ((mX5_keep  M).2) p6) miX6_keep wd_1393 rfl (Nat.le_of_ble_eq_true rfl) rfl (Nat.le_of_ble_eq_true rfl) rfl rfl rfl ?_
  refine r_icmp_eq_t FL.bs (tgt := 1638) dL_law_1620 (by decide) he ?_
  exact kk _ hJ
theorem lc_43 {L : Nat} {xs : Nat → Int32} {j : Nat} {M : Mem} (hj : j + 5 ≤ L) (hL : L ≤ 2560) (hI : Inv M) (kk : ∀ M2 : Mem, Inv M2 → AWP (FL L xs) tL 1638 (lvL j) [] M2) : AWP (FL L xs) tL 1625 (lvL j) [] M := by
  obtain ⟨p5, p6, he, hJ⟩ := ok_again  hI
  refine r_aload_n FL.bs dL_law_1625 rfl 2 rfl ?_
  refine r_callV_v FL.bs (st := []) dL_law_1626 (ctX5_again  M p5) miX5_again wd_861 rfl (Nat.le_of_ble_eq_true rfl) rfl (Nat.le_of_ble_eq_true rfl) rfl rfl rfl ?_
  refine r_aload_n FL.bs dL_law_1629 rfl 1 rfl ?_
  refine r_callV_v FL.bs (st := [.int (mX5_again  M).1]) dL_law_1630 (ctX6_again  ((mX5_again  M).2) p6) miX6_again wd_1397 rfl (Nat.le_of_ble_eq_true rfl) rfl (Nat.le_of_ble_eq_true rfl) rfl rfl rfl ?_
  refine r_icmp_eq_t FL.bs (tgt := 1638) dL_law_1633 (by decide) he ?_
  exact kk _ hJ
