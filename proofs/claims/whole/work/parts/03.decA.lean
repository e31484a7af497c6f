theorem dX0_init_0 : decode cX0_init 0 = .ok (.aload_n 0, 1) := by decide +kernel
theorem dX0_init_1 : decode cX0_init 1 = .ok (.invokespecial 3, 3) := by decide +kernel
theorem dX0_init_4 : decode cX0_init 4 = .ok (.aload_n 0, 1) := by decide +kernel
theorem dX0_init_5 : decode cX0_init 5 = .ok (.bipush 30, 2) := by decide +kernel
theorem dX0_init_7 : decode cX0_init 7 = .ok (.newarray .int, 2) := by decide +kernel
theorem dX0_init_9 : decode cX0_init 9 = .ok (.putfield 11, 3) := by decide +kernel
theorem dX0_init_12 : decode cX0_init 12 = .ok (.return_, 1) := by decide +kernel
theorem dX0_takeThing_0 : decode cX0_takeThing 0 = .ok (.aload_n 0, 1) := by decide +kernel
theorem dX0_takeThing_1 : decode cX0_takeThing 1 = .ok (.iload_n 1, 1) := by decide +kernel
theorem dX0_takeThing_2 : decode cX0_takeThing 2 = .ok (.putfield 15, 3) := by decide +kernel
theorem dX0_takeThing_5 : decode cX0_takeThing 5 = .ok (.aload_n 0, 1) := by decide +kernel
theorem dX0_takeThing_6 : decode cX0_takeThing 6 = .ok (.iload_n 2, 1) := by decide +kernel
theorem dX0_takeThing_7 : decode cX0_takeThing 7 = .ok (.putfield 19, 3) := by decide +kernel
theorem dX0_takeThing_10 : decode cX0_takeThing 10 = .ok (.aload_n 0, 1) := by decide +kernel
theorem dX0_takeThing_11 : decode cX0_takeThing 11 = .ok (.iload_n 3, 1) := by decide +kernel
theorem dX0_takeThing_12 : decode cX0_takeThing 12 = .ok (.putfield 22, 3) := by decide +kernel
theorem dX0_takeThing_15 : decode cX0_takeThing 15 = .ok (.return_, 1) := by decide +kernel
theorem dX0_perform_0 : decode cX0_perform 0 = .ok (.aload_n 0, 1) := by decide +kernel
theorem dX0_perform_1 : decode cX0_perform 1 = .ok (.iconst 0, 1) := by decide +kernel
theorem dX0_perform_2 : decode cX0_perform 2 = .ok (.putfield 25, 3) := by decide +kernel
theorem dX0_perform_5 : decode cX0_perform 5 = .ok (.aload_n 0, 1) := by decide +kernel
theorem dX0_perform_6 : decode cX0_perform 6 = .ok (.aload_n 0, 1) := by decide +kernel
theorem dX0_perform_7 : decode cX0_perform 7 = .ok (.iload_n 1, 1) := by decide +kernel
theorem dX0_perform_8 : decode cX0_perform 8 = .ok (.invokevirtual 29, 3) := by decide +kernel
theorem dX0_perform_11 : decode cX0_perform 11 = .ok (.iload_n 2, 1) := by decide +kernel
theorem dX0_perform_12 : decode cX0_perform 12 = .ok (.iconst 0, 1) := by decide +kernel
theorem dX0_perform_13 : decode cX0_perform 13 = .ok (.invokestatic 33, 3) := by decide +kernel
theorem dX0_perform_16 : decode cX0_perform 16 = .ok (.ireturn, 1) := by decide +kernel
theorem dX0_bodyOf_0 : decode cX0_bodyOf 0 = .ok (.aload_n 0, 1) := by decide +kernel
theorem dX0_bodyOf_1 : decode cX0_bodyOf 1 = .ok (.getfield 15, 3) := by decide +kernel
theorem dX0_bodyOf_4 : decode cX0_bodyOf 4 = .ok (.iconst 4, 1) := by decide +kernel
theorem dX0_bodyOf_5 : decode cX0_bodyOf 5 = .ok (.imul, 1) := by decide +kernel
theorem dX0_bodyOf_6 : decode cX0_bodyOf 6 = .ok (.iload_n 1, 1) := by decide +kernel
theorem dX0_bodyOf_7 : decode cX0_bodyOf 7 = .ok (.iadd, 1) := by decide +kernel
theorem dX0_bodyOf_8 : decode cX0_bodyOf 8 = .ok (.istore_n 2, 1) := by decide +kernel
theorem dX0_bodyOf_9 : decode cX0_bodyOf 9 = .ok (.iload_n 2, 1) := by decide +kernel
theorem dX0_bodyOf_10 : decode cX0_bodyOf 10 = .ok (.iconst 0, 1) := by decide +kernel
theorem dX0_bodyOf_11 : decode cX0_bodyOf 11 = .ok (.getstatic 37, 3) := by decide +kernel
theorem dX0_bodyOf_14 : decode cX0_bodyOf 14 = .ok (.arraylength, 1) := by decide +kernel
theorem dX0_bodyOf_15 : decode cX0_bodyOf 15 = .ok (.iconst 1, 1) := by decide +kernel
theorem dX0_bodyOf_16 : decode cX0_bodyOf 16 = .ok (.isub, 1) := by decide +kernel
theorem dX0_bodyOf_17 : decode cX0_bodyOf 17 = .ok (.invokestatic 40, 3) := by decide +kernel
theorem dX0_bodyOf_20 : decode cX0_bodyOf 20 = .ok (.ifCond .eq 11, 3) := by decide +kernel
theorem dX0_bodyOf_23 : decode cX0_bodyOf 23 = .ok (.getstatic 37, 3) := by decide +kernel
theorem dX0_bodyOf_26 : decode cX0_bodyOf 26 = .ok (.iload_n 2, 1) := by decide +kernel
theorem dX0_bodyOf_27 : decode cX0_bodyOf 27 = .ok (.iaload, 1) := by decide +kernel
theorem dX0_bodyOf_28 : decode cX0_bodyOf 28 = .ok (.goto 4, 3) := by decide +kernel
theorem dX0_bodyOf_31 : decode cX0_bodyOf 31 = .ok (.iconst 0, 1) := by decide +kernel
theorem dX0_bodyOf_32 : decode cX0_bodyOf 32 = .ok (.ireturn, 1) := by decide +kernel
theorem dX0_run_0 : decode cX0_run 0 = .ok (.aload_n 0, 1) := by decide +kernel
theorem dX0_run_1 : decode cX0_run 1 = .ok (.getfield 25, 3) := by decide +kernel
theorem dX0_run_4 : decode cX0_run 4 = .ok (.ifCond .ne 9, 3) := by decide +kernel
theorem dX0_run_7 : decode cX0_run 7 = .ok (.iload_n 3, 1) := by decide +kernel
theorem dX0_run_8 : decode cX0_run 8 = .ok (.bipush 40, 2) := by decide +kernel
theorem dX0_run_10 : decode cX0_run 10 = .ok (.if_icmp .le 5, 3) := by decide +kernel
theorem dX0_run_13 : decode cX0_run 13 = .ok (.iconst 0, 1) := by decide +kernel
theorem dX0_run_14 : decode cX0_run 14 = .ok (.ireturn, 1) := by decide +kernel
theorem dX0_run_15 : decode cX0_run 15 = .ok (.aload_n 0, 1) := by decide +kernel
theorem dX0_run_16 : decode cX0_run 16 = .ok (.iload_n 1, 1) := by decide +kernel
theorem dX0_run_17 : decode cX0_run 17 = .ok (.invokevirtual 44, 3) := by decide +kernel
theorem dX0_run_20 : decode cX0_run 20 = .ok (.iload_n 3, 1) := by decide +kernel
theorem dX0_run_21 : decode cX0_run 21 = .ok (.iconst 1, 1) := by decide +kernel
theorem dX0_run_22 : decode cX0_run 22 = .ok (.iadd, 1) := by decide +kernel
theorem dX0_run_23 : decode cX0_run 23 = .ok (.istore 4, 2) := by decide +kernel
theorem dX0_run_25 : decode cX0_run 25 = .ok (.iload_n 1, 1) := by decide +kernel
theorem dX0_run_26 : decode cX0_run 26 = .ok (.tableswitch 443 10 61 #[222, 232, 252, 267, 443, 443, 443, 443, 443, 443, 284, 443, 443, 443, 443, 443, 443, 443, 443, 443, 296, 308, 443, 443, 443, 443, 443, 443, 443, 443, 334, 347, 443, 443, 443, 443, 443, 443, 443, 443, 373, 390, 443, 443, 443, 443, 443, 443, 443, 443, 405, 417], 222) := by decide +kernel
theorem dX0_run_248 : decode cX0_run 248 = .ok (.iload_n 2, 1) := by decide +kernel
theorem dX0_run_249 : decode cX0_run 249 = .ok (.bipush 9, 2) := by decide +kernel
theorem dX0_run_251 : decode cX0_run 251 = .ok (.imul, 1) := by decide +kernel
theorem dX0_run_252 : decode cX0_run 252 = .ok (.aload_n 0, 1) := by decide +kernel
theorem dX0_run_253 : decode cX0_run 253 = .ok (.getfield 19, 3) := by decide +kernel
theorem dX0_run_256 : decode cX0_run 256 = .ok (.iadd, 1) := by decide +kernel
theorem dX0_run_257 : decode cX0_run 257 = .ok (.ireturn, 1) := by decide +kernel
theorem dX0_run_258 : decode cX0_run 258 = .ok (.aload_n 0, 1) := by decide +kernel
theorem dX0_run_259 : decode cX0_run 259 = .ok (.aload_n 0, 1) := by decide +kernel
theorem dX0_run_260 : decode cX0_run 260 = .ok (.iconst 0, 1) := by decide +kernel
theorem dX0_run_261 : decode cX0_run 261 = .ok (.invokevirtual 29, 3) := by decide +kernel
theorem dX0_run_264 : decode cX0_run 264 = .ok (.iload_n 2, 1) := by decide +kernel
theorem dX0_run_265 : decode cX0_run 265 = .ok (.iload 4, 2) := by decide +kernel
theorem dX0_run_267 : decode cX0_run 267 = .ok (.invokestatic 33, 3) := by decide +kernel
theorem dX0_run_270 : decode cX0_run 270 = .ok (.aload_n 0, 1) := by decide +kernel
theorem dX0_run_271 : decode cX0_run 271 = .ok (.getfield 22, 3) := by decide +kernel
theorem dX0_run_274 : decode cX0_run 274 = .ok (.iconst 3, 1) := by decide +kernel
theorem dX0_run_275 : decode cX0_run 275 = .ok (.imul, 1) := by decide +kernel
theorem dX0_run_276 : decode cX0_run 276 = .ok (.isub, 1) := by decide +kernel
theorem dX0_run_277 : decode cX0_run 277 = .ok (.ireturn, 1) := by decide +kernel
theorem dX0_run_278 : decode cX0_run 278 = .ok (.aload_n 0, 1) := by decide +kernel
theorem dX0_run_279 : decode cX0_run 279 = .ok (.iload_n 2, 1) := by decide +kernel
theorem dX0_run_280 : decode cX0_run 280 = .ok (.aload_n 0, 1) := by decide +kernel
theorem dX0_run_281 : decode cX0_run 281 = .ok (.getfield 22, 3) := by decide +kernel
theorem dX0_run_284 : decode cX0_run 284 = .ok (.aload_n 0, 1) := by decide +kernel
theorem dX0_run_285 : decode cX0_run 285 = .ok (.getfield 19, 3) := by decide +kernel
theorem dX0_run_288 : decode cX0_run 288 = .ok (.isub, 1) := by decide +kernel
theorem dX0_run_289 : decode cX0_run 289 = .ok (.invokevirtual 48, 3) := by decide +kernel
theorem dX0_run_292 : decode cX0_run 292 = .ok (.ireturn, 1) := by decide +kernel
theorem dX0_run_293 : decode cX0_run 293 = .ok (.aload_n 0, 1) := by decide +kernel
theorem dX0_run_294 : decode cX0_run 294 = .ok (.aload_n 0, 1) := by decide +kernel
theorem dX0_run_295 : decode cX0_run 295 = .ok (.iconst 1, 1) := by decide +kernel
theorem dX0_run_296 : decode cX0_run 296 = .ok (.invokevirtual 29, 3) := by decide +kernel
theorem dX0_run_299 : decode cX0_run 299 = .ok (.iload_n 2, 1) := by decide +kernel
theorem dX0_run_300 : decode cX0_run 300 = .ok (.iload 4, 2) := by decide +kernel
theorem dX0_run_302 : decode cX0_run 302 = .ok (.invokestatic 33, 3) := by decide +kernel
theorem dX0_run_305 : decode cX0_run 305 = .ok (.sipush 130, 3) := by decide +kernel
theorem dX0_run_308 : decode cX0_run 308 = .ok (.ixor, 1) := by decide +kernel
theorem dX0_run_309 : decode cX0_run 309 = .ok (.ireturn, 1) := by decide +kernel
theorem dX0_run_310 : decode cX0_run 310 = .ok (.aload_n 0, 1) := by decide +kernel
theorem dX0_run_311 : decode cX0_run 311 = .ok (.bipush 11, 2) := by decide +kernel
theorem dX0_run_313 : decode cX0_run 313 = .ok (.iload_n 2, 1) := by decide +kernel
theorem dX0_run_314 : decode cX0_run 314 = .ok (.iload 4, 2) := by decide +kernel
theorem dX0_run_316 : decode cX0_run 316 = .ok (.invokestatic 33, 3) := by decide +kernel
theorem dX0_run_319 : decode cX0_run 319 = .ok (.iconst 2, 1) := by decide +kernel
theorem dX0_run_320 : decode cX0_run 320 = .ok (.iadd, 1) := by decide +kernel
theorem dX0_run_321 : decode cX0_run 321 = .ok (.ireturn, 1) := by decide +kernel
theorem dX0_run_322 : decode cX0_run 322 = .ok (.iconst 0, 1) := by decide +kernel
theorem dX0_run_323 : decode cX0_run 323 = .ok (.aload_n 0, 1) := by decide +kernel
theorem dX0_run_324 : decode cX0_run 324 = .ok (.bipush 10, 2) := by decide +kernel
theorem dX0_run_326 : decode cX0_run 326 = .ok (.iload_n 2, 1) := by decide +kernel
theorem dX0_run_327 : decode cX0_run 327 = .ok (.iload 4, 2) := by decide +kernel
theorem dX0_run_329 : decode cX0_run 329 = .ok (.invokestatic 33, 3) := by decide +kernel
theorem dX0_run_332 : decode cX0_run 332 = .ok (.isub, 1) := by decide +kernel
theorem dX0_run_333 : decode cX0_run 333 = .ok (.ireturn, 1) := by decide +kernel
theorem dX0_run_334 : decode cX0_run 334 = .ok (.aload_n 0, 1) := by decide +kernel
theorem dX0_run_335 : decode cX0_run 335 = .ok (.bipush 13, 2) := by decide +kernel
theorem dX0_run_337 : decode cX0_run 337 = .ok (.iload_n 2, 1) := by decide +kernel
theorem dX0_run_338 : decode cX0_run 338 = .ok (.iload 4, 2) := by decide +kernel
theorem dX0_run_340 : decode cX0_run 340 = .ok (.invokestatic 33, 3) := by decide +kernel
theorem dX0_run_343 : decode cX0_run 343 = .ok (.aload_n 0, 1) := by decide +kernel
theorem dX0_run_344 : decode cX0_run 344 = .ok (.aload_n 0, 1) := by decide +kernel
theorem dX0_run_345 : decode cX0_run 345 = .ok (.iconst 2, 1) := by decide +kernel
theorem dX0_run_346 : decode cX0_run 346 = .ok (.invokevirtual 29, 3) := by decide +kernel
theorem dX0_run_349 : decode cX0_run 349 = .ok (.aload_n 0, 1) := by decide +kernel
theorem dX0_run_350 : decode cX0_run 350 = .ok (.getfield 19, 3) := by decide +kernel
theorem dX0_run_353 : decode cX0_run 353 = .ok (.iload 4, 2) := by decide +kernel
theorem dX0_run_355 : decode cX0_run 355 = .ok (.invokestatic 33, 3) := by decide +kernel
theorem dX0_run_358 : decode cX0_run 358 = .ok (.isub, 1) := by decide +kernel
theorem dX0_run_359 : decode cX0_run 359 = .ok (.ireturn, 1) := by decide +kernel
theorem dX0_run_360 : decode cX0_run 360 = .ok (.aload_n 0, 1) := by decide +kernel
theorem dX0_run_361 : decode cX0_run 361 = .ok (.bipush 30, 2) := by decide +kernel
theorem dX0_run_363 : decode cX0_run 363 = .ok (.iload_n 2, 1) := by decide +kernel
theorem dX0_run_364 : decode cX0_run 364 = .ok (.iload 4, 2) := by decide +kernel
theorem dX0_run_366 : decode cX0_run 366 = .ok (.invokestatic 33, 3) := by decide +kernel
theorem dX0_run_369 : decode cX0_run 369 = .ok (.bipush 6, 2) := by decide +kernel
theorem dX0_run_371 : decode cX0_run 371 = .ok (.iadd, 1) := by decide +kernel
theorem dX0_run_372 : decode cX0_run 372 = .ok (.ireturn, 1) := by decide +kernel
theorem dX0_run_373 : decode cX0_run 373 = .ok (.aload_n 0, 1) := by decide +kernel
theorem dX0_run_374 : decode cX0_run 374 = .ok (.bipush 11, 2) := by decide +kernel
theorem dX0_run_376 : decode cX0_run 376 = .ok (.iload_n 2, 1) := by decide +kernel
theorem dX0_run_377 : decode cX0_run 377 = .ok (.iload 4, 2) := by decide +kernel
theorem dX0_run_379 : decode cX0_run 379 = .ok (.invokestatic 33, 3) := by decide +kernel
theorem dX0_run_382 : decode cX0_run 382 = .ok (.aload_n 0, 1) := by decide +kernel
theorem dX0_run_383 : decode cX0_run 383 = .ok (.aload_n 0, 1) := by decide +kernel
theorem dX0_run_384 : decode cX0_run 384 = .ok (.iconst 0, 1) := by decide +kernel
theorem dX0_run_385 : decode cX0_run 385 = .ok (.invokevirtual 29, 3) := by decide +kernel
theorem dX0_run_388 : decode cX0_run 388 = .ok (.aload_n 0, 1) := by decide +kernel
theorem dX0_run_389 : decode cX0_run 389 = .ok (.getfield 22, 3) := by decide +kernel
theorem dX0_run_392 : decode cX0_run 392 = .ok (.iload 4, 2) := by decide +kernel
theorem dX0_run_394 : decode cX0_run 394 = .ok (.invokestatic 33, 3) := by decide +kernel
theorem dX0_run_397 : decode cX0_run 397 = .ok (.ixor, 1) := by decide +kernel
theorem dX0_run_398 : decode cX0_run 398 = .ok (.ireturn, 1) := by decide +kernel
theorem dX0_run_399 : decode cX0_run 399 = .ok (.aload_n 0, 1) := by decide +kernel
theorem dX0_run_400 : decode cX0_run 400 = .ok (.bipush 12, 2) := by decide +kernel
theorem dX0_run_402 : decode cX0_run 402 = .ok (.iload_n 2, 1) := by decide +kernel
theorem dX0_run_403 : decode cX0_run 403 = .ok (.aload_n 0, 1) := by decide +kernel
theorem dX0_run_404 : decode cX0_run 404 = .ok (.getfield 22, 3) := by decide +kernel
theorem dX0_run_407 : decode cX0_run 407 = .ok (.isub, 1) := by decide +kernel
theorem dX0_run_408 : decode cX0_run 408 = .ok (.iload 4, 2) := by decide +kernel
theorem dX0_run_410 : decode cX0_run 410 = .ok (.invokestatic 33, 3) := by decide +kernel
theorem dX0_run_413 : decode cX0_run 413 = .ok (.iconst 2, 1) := by decide +kernel
theorem dX0_run_414 : decode cX0_run 414 = .ok (.imul, 1) := by decide +kernel
theorem dX0_run_415 : decode cX0_run 415 = .ok (.ireturn, 1) := by decide +kernel
theorem dX0_run_416 : decode cX0_run 416 = .ok (.aload_n 0, 1) := by decide +kernel
theorem dX0_run_417 : decode cX0_run 417 = .ok (.bipush 10, 2) := by decide +kernel
theorem dX0_run_419 : decode cX0_run 419 = .ok (.iload_n 2, 1) := by decide +kernel
theorem dX0_run_420 : decode cX0_run 420 = .ok (.iload 4, 2) := by decide +kernel
theorem dX0_run_422 : decode cX0_run 422 = .ok (.invokestatic 33, 3) := by decide +kernel
theorem dX0_run_425 : decode cX0_run 425 = .ok (.aload_n 0, 1) := by decide +kernel
theorem dX0_run_426 : decode cX0_run 426 = .ok (.getfield 19, 3) := by decide +kernel
theorem dX0_run_429 : decode cX0_run 429 = .ok (.iadd, 1) := by decide +kernel
theorem dX0_run_430 : decode cX0_run 430 = .ok (.ireturn, 1) := by decide +kernel
theorem dX0_run_431 : decode cX0_run 431 = .ok (.aload_n 0, 1) := by decide +kernel
theorem dX0_run_432 : decode cX0_run 432 = .ok (.bipush 13, 2) := by decide +kernel
theorem dX0_run_434 : decode cX0_run 434 = .ok (.iload_n 2, 1) := by decide +kernel
theorem dX0_run_435 : decode cX0_run 435 = .ok (.iload 4, 2) := by decide +kernel
theorem dX0_run_437 : decode cX0_run 437 = .ok (.invokestatic 33, 3) := by decide +kernel
theorem dX0_run_440 : decode cX0_run 440 = .ok (.iconst 3, 1) := by decide +kernel
theorem dX0_run_441 : decode cX0_run 441 = .ok (.imul, 1) := by decide +kernel
theorem dX0_run_442 : decode cX0_run 442 = .ok (.ireturn, 1) := by decide +kernel
theorem dX0_run_443 : decode cX0_run 443 = .ok (.aload_n 0, 1) := by decide +kernel
theorem dX0_run_444 : decode cX0_run 444 = .ok (.bipush 12, 2) := by decide +kernel
theorem dX0_run_446 : decode cX0_run 446 = .ok (.iload_n 2, 1) := by decide +kernel
theorem dX0_run_447 : decode cX0_run 447 = .ok (.iload 4, 2) := by decide +kernel
theorem dX0_run_449 : decode cX0_run 449 = .ok (.invokestatic 33, 3) := by decide +kernel
theorem dX0_run_452 : decode cX0_run 452 = .ok (.aload_n 0, 1) := by decide +kernel
theorem dX0_run_453 : decode cX0_run 453 = .ok (.aload_n 0, 1) := by decide +kernel
theorem dX0_run_454 : decode cX0_run 454 = .ok (.iconst 0, 1) := by decide +kernel
theorem dX0_run_455 : decode cX0_run 455 = .ok (.invokevirtual 29, 3) := by decide +kernel
theorem dX0_run_458 : decode cX0_run 458 = .ok (.aload_n 0, 1) := by decide +kernel
theorem dX0_run_459 : decode cX0_run 459 = .ok (.getfield 19, 3) := by decide +kernel
theorem dX0_run_462 : decode cX0_run 462 = .ok (.iload 4, 2) := by decide +kernel
theorem dX0_run_464 : decode cX0_run 464 = .ok (.invokestatic 33, 3) := by decide +kernel
theorem dX0_run_467 : decode cX0_run 467 = .ok (.iadd, 1) := by decide +kernel
theorem dX0_run_468 : decode cX0_run 468 = .ok (.ireturn, 1) := by decide +kernel
theorem dX0_run_469 : decode cX0_run 469 = .ok (.iconst 0, 1) := by decide +kernel
theorem dX0_run_470 : decode cX0_run 470 = .ok (.ireturn, 1) := by decide +kernel
theorem dX0_partedBy_0 : decode cX0_partedBy 0 = .ok (.iload_n 2, 1) := by decide +kernel
theorem dX0_partedBy_1 : decode cX0_partedBy 1 = .ok (.ifCond .ne 10, 3) := by decide +kernel
theorem dX0_partedBy_4 : decode cX0_partedBy 4 = .ok (.aload_n 0, 1) := by decide +kernel
theorem dX0_partedBy_5 : decode cX0_partedBy 5 = .ok (.iconst 1, 1) := by decide +kernel
theorem dX0_partedBy_6 : decode cX0_partedBy 6 = .ok (.putfield 25, 3) := by decide +kernel
theorem dX0_partedBy_9 : decode cX0_partedBy 9 = .ok (.iconst 0, 1) := by decide +kernel
theorem dX0_partedBy_10 : decode cX0_partedBy 10 = .ok (.ireturn, 1) := by decide +kernel
theorem dX0_partedBy_11 : decode cX0_partedBy 11 = .ok (.iload_n 1, 1) := by decide +kernel
theorem dX0_partedBy_12 : decode cX0_partedBy 12 = .ok (.iload_n 2, 1) := by decide +kernel
theorem dX0_partedBy_13 : decode cX0_partedBy 13 = .ok (.idiv, 1) := by decide +kernel
theorem dX0_partedBy_14 : decode cX0_partedBy 14 = .ok (.ireturn, 1) := by decide +kernel
theorem dX0_note_0 : decode cX0_note 0 = .ok (.aload_n 0, 1) := by decide +kernel
theorem dX0_note_1 : decode cX0_note 1 = .ok (.getfield 52, 3) := by decide +kernel
theorem dX0_note_4 : decode cX0_note 4 = .ok (.bipush 30, 2) := by decide +kernel
theorem dX0_note_6 : decode cX0_note 6 = .ok (.if_icmp .ge 23, 3) := by decide +kernel
theorem dX0_note_9 : decode cX0_note 9 = .ok (.aload_n 0, 1) := by decide +kernel
theorem dX0_note_10 : decode cX0_note 10 = .ok (.getfield 11, 3) := by decide +kernel
theorem dX0_note_13 : decode cX0_note 13 = .ok (.aload_n 0, 1) := by decide +kernel
theorem dX0_note_14 : decode cX0_note 14 = .ok (.getfield 52, 3) := by decide +kernel
theorem dX0_note_17 : decode cX0_note 17 = .ok (.iload_n 1, 1) := by decide +kernel
theorem dX0_note_18 : decode cX0_note 18 = .ok (.iastore, 1) := by decide +kernel
theorem dX0_note_19 : decode cX0_note 19 = .ok (.aload_n 0, 1) := by decide +kernel
theorem dX0_note_20 : decode cX0_note 20 = .ok (.dup, 1) := by decide +kernel
theorem dX0_note_21 : decode cX0_note 21 = .ok (.getfield 52, 3) := by decide +kernel
theorem dX0_note_24 : decode cX0_note 24 = .ok (.iconst 1, 1) := by decide +kernel
theorem dX0_note_25 : decode cX0_note 25 = .ok (.iadd, 1) := by decide +kernel
theorem dX0_note_26 : decode cX0_note 26 = .ok (.putfield 52, 3) := by decide +kernel
theorem dX0_note_29 : decode cX0_note 29 = .ok (.return_, 1) := by decide +kernel
theorem dX1_init_0 : decode cX1_init 0 = .ok (.aload_n 0, 1) := by decide +kernel
theorem dX1_init_1 : decode cX1_init 1 = .ok (.invokespecial 3, 3) := by decide +kernel
theorem dX1_init_4 : decode cX1_init 4 = .ok (.aload_n 0, 1) := by decide +kernel
theorem dX1_init_5 : decode cX1_init 5 = .ok (.bipush 40, 2) := by decide +kernel
theorem dX1_init_7 : decode cX1_init 7 = .ok (.newarray .int, 2) := by decide +kernel
theorem dX1_init_9 : decode cX1_init 9 = .ok (.putfield 9, 3) := by decide +kernel
theorem dX1_init_12 : decode cX1_init 12 = .ok (.aload_n 0, 1) := by decide +kernel
theorem dX1_init_13 : decode cX1_init 13 = .ok (.iconst (-1), 1) := by decide +kernel
theorem dX1_init_14 : decode cX1_init 14 = .ok (.putfield 15, 3) := by decide +kernel
theorem dX1_init_17 : decode cX1_init 17 = .ok (.return_, 1) := by decide +kernel
theorem dX1_isMissing_0 : decode cX1_isMissing 0 = .ok (.aload_n 0, 1) := by decide +kernel
theorem dX1_isMissing_1 : decode cX1_isMissing 1 = .ok (.getfield 15, 3) := by decide +kernel
theorem dX1_isMissing_4 : decode cX1_isMissing 4 = .ok (.iconst (-1), 1) := by decide +kernel
theorem dX1_isMissing_5 : decode cX1_isMissing 5 = .ok (.if_icmp .ne 7, 3) := by decide +kernel
theorem dX1_isMissing_8 : decode cX1_isMissing 8 = .ok (.iconst 1, 1) := by decide +kernel
theorem dX1_isMissing_9 : decode cX1_isMissing 9 = .ok (.goto 4, 3) := by decide +kernel
theorem dX1_isMissing_12 : decode cX1_isMissing 12 = .ok (.iconst 0, 1) := by decide +kernel
theorem dX1_isMissing_13 : decode cX1_isMissing 13 = .ok (.ireturn, 1) := by decide +kernel
theorem dX1_hasItem_0 : decode cX1_hasItem 0 = .ok (.iload_n 1, 1) := by decide +kernel
theorem dX1_hasItem_1 : decode cX1_hasItem 1 = .ok (.iconst 0, 1) := by decide +kernel
theorem dX1_hasItem_2 : decode cX1_hasItem 2 = .ok (.aload_n 0, 1) := by decide +kernel
theorem dX1_hasItem_3 : decode cX1_hasItem 3 = .ok (.getfield 19, 3) := by decide +kernel
theorem dX1_hasItem_6 : decode cX1_hasItem 6 = .ok (.iconst 1, 1) := by decide +kernel
theorem dX1_hasItem_7 : decode cX1_hasItem 7 = .ok (.isub, 1) := by decide +kernel
theorem dX1_hasItem_8 : decode cX1_hasItem 8 = .ok (.invokestatic 22, 3) := by decide +kernel
theorem dX1_hasItem_11 : decode cX1_hasItem 11 = .ok (.ireturn, 1) := by decide +kernel
theorem dX1_becomeRow_0 : decode cX1_becomeRow 0 = .ok (.aload_n 0, 1) := by decide +kernel
theorem dX1_becomeRow_1 : decode cX1_becomeRow 1 = .ok (.getfield 9, 3) := by decide +kernel
theorem dX1_becomeRow_4 : decode cX1_becomeRow 4 = .ok (.iconst 0, 1) := by decide +kernel
theorem dX1_becomeRow_5 : decode cX1_becomeRow 5 = .ok (.invokestatic 26, 3) := by decide +kernel
theorem dX1_becomeRow_8 : decode cX1_becomeRow 8 = .ok (.aload_n 0, 1) := by decide +kernel
theorem dX1_becomeRow_9 : decode cX1_becomeRow 9 = .ok (.iload_n 1, 1) := by decide +kernel
theorem dX1_becomeRow_10 : decode cX1_becomeRow 10 = .ok (.putfield 15, 3) := by decide +kernel
theorem dX1_becomeRow_13 : decode cX1_becomeRow 13 = .ok (.aload_n 0, 1) := by decide +kernel
theorem dX1_becomeRow_14 : decode cX1_becomeRow 14 = .ok (.iload_n 2, 1) := by decide +kernel
theorem dX1_becomeRow_15 : decode cX1_becomeRow 15 = .ok (.putfield 19, 3) := by decide +kernel
theorem dX1_becomeRow_18 : decode cX1_becomeRow 18 = .ok (.return_, 1) := by decide +kernel
theorem dX1_narrowed_0 : decode cX1_narrowed 0 = .ok (.aload_n 0, 1) := by decide +kernel
theorem dX1_narrowed_1 : decode cX1_narrowed 1 = .ok (.getfield 15, 3) := by decide +kernel
theorem dX1_narrowed_4 : decode cX1_narrowed 4 = .ok (.lookupswitch 34 #[(0, 28), (1, 31)], 28) := by decide +kernel
theorem dX1_narrowed_32 : decode cX1_narrowed 32 = .ok (.iload_n 1, 1) := by decide +kernel
theorem dX1_narrowed_33 : decode cX1_narrowed 33 = .ok (.i2b, 1) := by decide +kernel
theorem dX1_narrowed_34 : decode cX1_narrowed 34 = .ok (.ireturn, 1) := by decide +kernel
theorem dX1_narrowed_35 : decode cX1_narrowed 35 = .ok (.iload_n 1, 1) := by decide +kernel
theorem dX1_narrowed_36 : decode cX1_narrowed 36 = .ok (.i2s, 1) := by decide +kernel
theorem dX1_narrowed_37 : decode cX1_narrowed 37 = .ok (.ireturn, 1) := by decide +kernel
theorem dX1_narrowed_38 : decode cX1_narrowed 38 = .ok (.iload_n 1, 1) := by decide +kernel
theorem dX1_narrowed_39 : decode cX1_narrowed 39 = .ok (.ireturn, 1) := by decide +kernel
theorem dX2_init_0 : decode cX2_init 0 = .ok (.aload_n 0, 1) := by decide +kernel
theorem dX2_init_1 : decode cX2_init 1 = .ok (.invokespecial 3, 3) := by decide +kernel
theorem dX2_init_4 : decode cX2_init 4 = .ok (.aload_n 0, 1) := by decide +kernel
theorem dX2_init_5 : decode cX2_init 5 = .ok (.iconst 2, 1) := by decide +kernel
theorem dX2_init_6 : decode cX2_init 6 = .ok (.putfield 9, 3) := by decide +kernel
theorem dX2_init_9 : decode cX2_init 9 = .ok (.return_, 1) := by decide +kernel
theorem dX2_holdAir_0 : decode cX2_holdAir 0 = .ok (.aload_n 0, 1) := by decide +kernel
theorem dX2_holdAir_1 : decode cX2_holdAir 1 = .ok (.iconst 0, 1) := by decide +kernel
theorem dX2_holdAir_2 : decode cX2_holdAir 2 = .ok (.putfield 9, 3) := by decide +kernel
theorem dX2_holdAir_5 : decode cX2_holdAir 5 = .ok (.aload_n 0, 1) := by decide +kernel
theorem dX2_holdAir_6 : decode cX2_holdAir 6 = .ok (.iload_n 1, 1) := by decide +kernel
theorem dX2_holdAir_7 : decode cX2_holdAir 7 = .ok (.putfield 15, 3) := by decide +kernel
theorem dX2_holdAir_10 : decode cX2_holdAir 10 = .ok (.return_, 1) := by decide +kernel
theorem dX2_holdRow_0 : decode cX2_holdRow 0 = .ok (.aload_n 0, 1) := by decide +kernel
theorem dX2_holdRow_1 : decode cX2_holdRow 1 = .ok (.aload_n 1, 1) := by decide +kernel
theorem dX2_holdRow_2 : decode cX2_holdRow 2 = .ok (.invokevirtual 18, 3) := by decide +kernel
theorem dX2_holdRow_5 : decode cX2_holdRow 5 = .ok (.ifCond .eq 7, 3) := by decide +kernel
theorem dX2_holdRow_8 : decode cX2_holdRow 8 = .ok (.iconst 2, 1) := by decide +kernel
theorem dX2_holdRow_9 : decode cX2_holdRow 9 = .ok (.goto 4, 3) := by decide +kernel
theorem dX2_holdRow_12 : decode cX2_holdRow 12 = .ok (.iconst 1, 1) := by decide +kernel
theorem dX2_holdRow_13 : decode cX2_holdRow 13 = .ok (.putfield 9, 3) := by decide +kernel
theorem dX2_holdRow_16 : decode cX2_holdRow 16 = .ok (.aload_n 0, 1) := by decide +kernel
theorem dX2_holdRow_17 : decode cX2_holdRow 17 = .ok (.aload_n 1, 1) := by decide +kernel
theorem dX2_holdRow_18 : decode cX2_holdRow 18 = .ok (.getfield 24, 3) := by decide +kernel
theorem dX2_holdRow_21 : decode cX2_holdRow 21 = .ok (.putfield 27, 3) := by decide +kernel
theorem dX2_holdRow_24 : decode cX2_holdRow 24 = .ok (.aload_n 0, 1) := by decide +kernel
theorem dX2_holdRow_25 : decode cX2_holdRow 25 = .ok (.aload_n 1, 1) := by decide +kernel
theorem dX2_holdRow_26 : decode cX2_holdRow 26 = .ok (.getfield 28, 3) := by decide +kernel
theorem dX2_holdRow_29 : decode cX2_holdRow 29 = .ok (.putfield 31, 3) := by decide +kernel
theorem dX2_holdRow_32 : decode cX2_holdRow 32 = .ok (.return_, 1) := by decide +kernel
theorem dX3_init_0 : decode cX3_init 0 = .ok (.aload_n 0, 1) := by decide +kernel
theorem dX3_init_1 : decode cX3_init 1 = .ok (.invokespecial 3, 3) := by decide +kernel
theorem dX3_init_4 : decode cX3_init 4 = .ok (.aload_n 0, 1) := by decide +kernel
theorem dX3_init_5 : decode cX3_init 5 = .ok (.sipush 200, 3) := by decide +kernel
theorem dX3_init_8 : decode cX3_init 8 = .ok (.newarray .int, 2) := by decide +kernel
theorem dX3_init_10 : decode cX3_init 10 = .ok (.putfield 11, 3) := by decide +kernel
theorem dX3_init_13 : decode cX3_init 13 = .ok (.return_, 1) := by decide +kernel
theorem dX3_takeBytes_0 : decode cX3_takeBytes 0 = .ok (.iload_n 3, 1) := by decide +kernel
theorem dX3_takeBytes_1 : decode cX3_takeBytes 1 = .ok (.sipush 200, 3) := by decide +kernel
theorem dX3_takeBytes_4 : decode cX3_takeBytes 4 = .ok (.aload_n 0, 1) := by decide +kernel
theorem dX3_takeBytes_5 : decode cX3_takeBytes 5 = .ok (.getfield 15, 3) := by decide +kernel
theorem dX3_takeBytes_8 : decode cX3_takeBytes 8 = .ok (.isub, 1) := by decide +kernel
theorem dX3_takeBytes_9 : decode cX3_takeBytes 9 = .ok (.if_icmp .le 5, 3) := by decide +kernel
theorem dX3_takeBytes_12 : decode cX3_takeBytes 12 = .ok (.iconst 0, 1) := by decide +kernel
theorem dX3_takeBytes_13 : decode cX3_takeBytes 13 = .ok (.ireturn, 1) := by decide +kernel
theorem dX3_takeBytes_14 : decode cX3_takeBytes 14 = .ok (.iconst 0, 1) := by decide +kernel
theorem dX3_takeBytes_15 : decode cX3_takeBytes 15 = .ok (.istore 4, 2) := by decide +kernel
theorem dX3_takeBytes_17 : decode cX3_takeBytes 17 = .ok (.iload 4, 2) := by decide +kernel
theorem dX3_takeBytes_19 : decode cX3_takeBytes 19 = .ok (.iload_n 3, 1) := by decide +kernel
theorem dX3_takeBytes_20 : decode cX3_takeBytes 20 = .ok (.if_icmp .ge 33, 3) := by decide +kernel
theorem dX3_takeBytes_23 : decode cX3_takeBytes 23 = .ok (.aload_n 0, 1) := by decide +kernel
theorem dX3_takeBytes_24 : decode cX3_takeBytes 24 = .ok (.getfield 11, 3) := by decide +kernel
theorem dX3_takeBytes_27 : decode cX3_takeBytes 27 = .ok (.aload_n 0, 1) := by decide +kernel
theorem dX3_takeBytes_28 : decode cX3_takeBytes 28 = .ok (.getfield 15, 3) := by decide +kernel
theorem dX3_takeBytes_31 : decode cX3_takeBytes 31 = .ok (.iload 4, 2) := by decide +kernel
theorem dX3_takeBytes_33 : decode cX3_takeBytes 33 = .ok (.iadd, 1) := by decide +kernel
theorem dX3_takeBytes_34 : decode cX3_takeBytes 34 = .ok (.lload_n 1, 1) := by decide +kernel
theorem dX3_takeBytes_35 : decode cX3_takeBytes 35 = .ok (.bipush 8, 2) := by decide +kernel
theorem dX3_takeBytes_37 : decode cX3_takeBytes 37 = .ok (.iload 4, 2) := by decide +kernel
theorem dX3_takeBytes_39 : decode cX3_takeBytes 39 = .ok (.imul, 1) := by decide +kernel
theorem dX3_takeBytes_40 : decode cX3_takeBytes 40 = .ok (.lushr, 1) := by decide +kernel
theorem dX3_takeBytes_41 : decode cX3_takeBytes 41 = .ok (.l2i, 1) := by decide +kernel
theorem dX3_takeBytes_42 : decode cX3_takeBytes 42 = .ok (.sipush 255, 3) := by decide +kernel
theorem dX3_takeBytes_45 : decode cX3_takeBytes 45 = .ok (.iand, 1) := by decide +kernel
theorem dX3_takeBytes_46 : decode cX3_takeBytes 46 = .ok (.iastore, 1) := by decide +kernel
theorem dX3_takeBytes_47 : decode cX3_takeBytes 47 = .ok (.iinc 4 1, 3) := by decide +kernel
theorem dX3_takeBytes_50 : decode cX3_takeBytes 50 = .ok (.goto (-33), 3) := by decide +kernel
theorem dX3_takeBytes_53 : decode cX3_takeBytes 53 = .ok (.aload_n 0, 1) := by decide +kernel
theorem dX3_takeBytes_54 : decode cX3_takeBytes 54 = .ok (.dup, 1) := by decide +kernel
theorem dX3_takeBytes_55 : decode cX3_takeBytes 55 = .ok (.getfield 15, 3) := by decide +kernel
theorem dX3_takeBytes_58 : decode cX3_takeBytes 58 = .ok (.iload_n 3, 1) := by decide +kernel
theorem dX3_takeBytes_59 : decode cX3_takeBytes 59 = .ok (.iadd, 1) := by decide +kernel
theorem dX3_takeBytes_60 : decode cX3_takeBytes 60 = .ok (.putfield 15, 3) := by decide +kernel
theorem dX3_takeBytes_63 : decode cX3_takeBytes 63 = .ok (.iconst 1, 1) := by decide +kernel
theorem dX3_takeBytes_64 : decode cX3_takeBytes 64 = .ok (.ireturn, 1) := by decide +kernel
theorem dX3_tell_0 : decode cX3_tell 0 = .ok (.aload_n 0, 1) := by decide +kernel
theorem dX3_tell_1 : decode cX3_tell 1 = .ok (.iconst 0, 1) := by decide +kernel
theorem dX3_tell_2 : decode cX3_tell 2 = .ok (.putfield 19, 3) := by decide +kernel
theorem dX3_tell_5 : decode cX3_tell 5 = .ok (.aload_n 0, 1) := by decide +kernel
theorem dX3_tell_6 : decode cX3_tell 6 = .ok (.iconst (-1), 1) := by decide +kernel
theorem dX3_tell_7 : decode cX3_tell 7 = .ok (.putfield 22, 3) := by decide +kernel
theorem dX3_tell_10 : decode cX3_tell 10 = .ok (.aload_n 0, 1) := by decide +kernel
theorem dX3_tell_11 : decode cX3_tell 11 = .ok (.invokevirtual 25, 3) := by decide +kernel
theorem dX3_tell_14 : decode cX3_tell 14 = .ok (.iconst 0, 1) := by decide +kernel
theorem dX3_tell_15 : decode cX3_tell 15 = .ok (.istore_n 2, 1) := by decide +kernel
theorem dX3_tell_16 : decode cX3_tell 16 = .ok (.iload_n 2, 1) := by decide +kernel
theorem dX3_tell_17 : decode cX3_tell 17 = .ok (.sipush 200, 3) := by decide +kernel
theorem dX3_tell_20 : decode cX3_tell 20 = .ok (.if_icmp .ge 36, 3) := by decide +kernel
theorem dX3_tell_23 : decode cX3_tell 23 = .ok (.aload_n 0, 1) := by decide +kernel
theorem dX3_tell_24 : decode cX3_tell 24 = .ok (.getfield 19, 3) := by decide +kernel
theorem dX3_tell_27 : decode cX3_tell 27 = .ok (.aload_n 0, 1) := by decide +kernel
theorem dX3_tell_28 : decode cX3_tell 28 = .ok (.getfield 15, 3) := by decide +kernel
theorem dX3_tell_31 : decode cX3_tell 31 = .ok (.if_icmp .ge 25, 3) := by decide +kernel
theorem dX3_tell_34 : decode cX3_tell 34 = .ok (.aload_n 0, 1) := by decide +kernel
theorem dX3_tell_35 : decode cX3_tell 35 = .ok (.getfield 22, 3) := by decide +kernel
theorem dX3_tell_38 : decode cX3_tell 38 = .ok (.ifCond .ge 18, 3) := by decide +kernel
theorem dX3_tell_41 : decode cX3_tell 41 = .ok (.aload_n 0, 1) := by decide +kernel
theorem dX3_tell_42 : decode cX3_tell 42 = .ok (.aload_n 1, 1) := by decide +kernel
theorem dX3_tell_43 : decode cX3_tell 43 = .ok (.invokevirtual 28, 3) := by decide +kernel
theorem dX3_tell_46 : decode cX3_tell 46 = .ok (.aload_n 0, 1) := by decide +kernel
theorem dX3_tell_47 : decode cX3_tell 47 = .ok (.invokevirtual 25, 3) := by decide +kernel
theorem dX3_tell_50 : decode cX3_tell 50 = .ok (.iinc 2 1, 3) := by decide +kernel
theorem dX3_tell_53 : decode cX3_tell 53 = .ok (.goto (-37), 3) := by decide +kernel
theorem dX3_tell_56 : decode cX3_tell 56 = .ok (.aload_n 0, 1) := by decide +kernel
theorem dX3_tell_57 : decode cX3_tell 57 = .ok (.getfield 22, 3) := by decide +kernel
theorem dX3_tell_60 : decode cX3_tell 60 = .ok (.ireturn, 1) := by decide +kernel
theorem dX3_tellOne_0 : decode cX3_tellOne 0 = .ok (.aload_n 0, 1) := by decide +kernel
theorem dX3_tellOne_1 : decode cX3_tellOne 1 = .ok (.invokevirtual 32, 3) := by decide +kernel
theorem dX3_tellOne_4 : decode cX3_tellOne 4 = .ok (.istore_n 2, 1) := by decide +kernel
theorem dX3_tellOne_5 : decode cX3_tellOne 5 = .ok (.iload_n 2, 1) := by decide +kernel
theorem dX3_tellOne_6 : decode cX3_tellOne 6 = .ok (.ifCond .lt 12, 3) := by decide +kernel
theorem dX3_tellOne_9 : decode cX3_tellOne 9 = .ok (.aload_n 0, 1) := by decide +kernel
theorem dX3_tellOne_10 : decode cX3_tellOne 10 = .ok (.aload_n 1, 1) := by decide +kernel
theorem dX3_tellOne_11 : decode cX3_tellOne 11 = .ok (.iload_n 2, 1) := by decide +kernel
theorem dX3_tellOne_12 : decode cX3_tellOne 12 = .ok (.invokevirtual 36, 3) := by decide +kernel
theorem dX3_tellOne_15 : decode cX3_tellOne 15 = .ok (.goto 118, 3) := by decide +kernel
theorem dX3_tellOne_18 : decode cX3_tellOne 18 = .ok (.aload_n 0, 1) := by decide +kernel
theorem dX3_tellOne_19 : decode cX3_tellOne 19 = .ok (.ldc 40, 2) := by decide +kernel
theorem dX3_tellOne_21 : decode cX3_tellOne 21 = .ok (.invokevirtual 42, 3) := by decide +kernel
theorem dX3_tellOne_24 : decode cX3_tellOne 24 = .ok (.ifCond .eq 11, 3) := by decide +kernel
theorem dX3_tellOne_27 : decode cX3_tellOne 27 = .ok (.aload_n 0, 1) := by decide +kernel
theorem dX3_tellOne_28 : decode cX3_tellOne 28 = .ok (.aload_n 1, 1) := by decide +kernel
theorem dX3_tellOne_29 : decode cX3_tellOne 29 = .ok (.invokevirtual 46, 3) := by decide +kernel
theorem dX3_tellOne_32 : decode cX3_tellOne 32 = .ok (.goto 101, 3) := by decide +kernel
theorem dX3_tellOne_35 : decode cX3_tellOne 35 = .ok (.aload_n 0, 1) := by decide +kernel
theorem dX3_tellOne_36 : decode cX3_tellOne 36 = .ok (.ldc 49, 2) := by decide +kernel
theorem dX3_tellOne_38 : decode cX3_tellOne 38 = .ok (.invokevirtual 42, 3) := by decide +kernel
theorem dX3_tellOne_41 : decode cX3_tellOne 41 = .ok (.ifCond .eq 16, 3) := by decide +kernel
theorem dX3_tellOne_44 : decode cX3_tellOne 44 = .ok (.aload_n 1, 1) := by decide +kernel
theorem dX3_tellOne_45 : decode cX3_tellOne 45 = .ok (.aload_n 0, 1) := by decide +kernel
theorem dX3_tellOne_46 : decode cX3_tellOne 46 = .ok (.iconst 0, 1) := by decide +kernel
theorem dX3_tellOne_47 : decode cX3_tellOne 47 = .ok (.iconst 3, 1) := by decide +kernel
theorem dX3_tellOne_48 : decode cX3_tellOne 48 = .ok (.invokevirtual 51, 3) := by decide +kernel
theorem dX3_tellOne_51 : decode cX3_tellOne 51 = .ok (.putfield 55, 3) := by decide +kernel
theorem dX3_tellOne_54 : decode cX3_tellOne 54 = .ok (.goto 79, 3) := by decide +kernel
theorem dX3_tellOne_57 : decode cX3_tellOne 57 = .ok (.aload_n 0, 1) := by decide +kernel
theorem dX3_tellOne_58 : decode cX3_tellOne 58 = .ok (.ldc 59, 2) := by decide +kernel
theorem dX3_tellOne_60 : decode cX3_tellOne 60 = .ok (.invokevirtual 42, 3) := by decide +kernel
theorem dX3_tellOne_63 : decode cX3_tellOne 63 = .ok (.ifCond .eq 12, 3) := by decide +kernel
theorem dX3_tellOne_66 : decode cX3_tellOne 66 = .ok (.aload_n 0, 1) := by decide +kernel
theorem dX3_tellOne_67 : decode cX3_tellOne 67 = .ok (.aload_n 1, 1) := by decide +kernel
theorem dX3_tellOne_68 : decode cX3_tellOne 68 = .ok (.iconst 0, 1) := by decide +kernel
theorem dX3_tellOne_69 : decode cX3_tellOne 69 = .ok (.invokevirtual 61, 3) := by decide +kernel
theorem dX3_tellOne_72 : decode cX3_tellOne 72 = .ok (.goto 61, 3) := by decide +kernel
theorem dX3_tellOne_75 : decode cX3_tellOne 75 = .ok (.aload_n 0, 1) := by decide +kernel
theorem dX3_tellOne_76 : decode cX3_tellOne 76 = .ok (.ldc 64, 2) := by decide +kernel
theorem dX3_tellOne_78 : decode cX3_tellOne 78 = .ok (.invokevirtual 42, 3) := by decide +kernel
theorem dX3_tellOne_81 : decode cX3_tellOne 81 = .ok (.ifCond .eq 12, 3) := by decide +kernel
theorem dX3_tellOne_84 : decode cX3_tellOne 84 = .ok (.aload_n 0, 1) := by decide +kernel
theorem dX3_tellOne_85 : decode cX3_tellOne 85 = .ok (.aload_n 1, 1) := by decide +kernel
theorem dX3_tellOne_86 : decode cX3_tellOne 86 = .ok (.iconst 1, 1) := by decide +kernel
theorem dX3_tellOne_87 : decode cX3_tellOne 87 = .ok (.invokevirtual 61, 3) := by decide +kernel
theorem dX3_tellOne_90 : decode cX3_tellOne 90 = .ok (.goto 43, 3) := by decide +kernel
theorem dX3_tellOne_93 : decode cX3_tellOne 93 = .ok (.aload_n 0, 1) := by decide +kernel
theorem dX3_tellOne_94 : decode cX3_tellOne 94 = .ok (.ldc 66, 2) := by decide +kernel
theorem dX3_tellOne_96 : decode cX3_tellOne 96 = .ok (.invokevirtual 42, 3) := by decide +kernel
theorem dX3_tellOne_99 : decode cX3_tellOne 99 = .ok (.ifCond .eq 12, 3) := by decide +kernel
theorem dX3_tellOne_102 : decode cX3_tellOne 102 = .ok (.aload_n 0, 1) := by decide +kernel
theorem dX3_tellOne_103 : decode cX3_tellOne 103 = .ok (.aload_n 1, 1) := by decide +kernel
theorem dX3_tellOne_104 : decode cX3_tellOne 104 = .ok (.iconst 2, 1) := by decide +kernel
theorem dX3_tellOne_105 : decode cX3_tellOne 105 = .ok (.invokevirtual 61, 3) := by decide +kernel
theorem dX3_tellOne_108 : decode cX3_tellOne 108 = .ok (.goto 25, 3) := by decide +kernel
theorem dX3_tellOne_111 : decode cX3_tellOne 111 = .ok (.aload_n 0, 1) := by decide +kernel
theorem dX3_tellOne_112 : decode cX3_tellOne 112 = .ok (.ldc 68, 2) := by decide +kernel
theorem dX3_tellOne_114 : decode cX3_tellOne 114 = .ok (.invokevirtual 42, 3) := by decide +kernel
theorem dX3_tellOne_117 : decode cX3_tellOne 117 = .ok (.ifCond .eq 12, 3) := by decide +kernel
theorem dX3_tellOne_120 : decode cX3_tellOne 120 = .ok (.aload_n 0, 1) := by decide +kernel
theorem dX3_tellOne_121 : decode cX3_tellOne 121 = .ok (.aload_n 1, 1) := by decide +kernel
theorem dX3_tellOne_122 : decode cX3_tellOne 122 = .ok (.iconst 3, 1) := by decide +kernel
theorem dX3_tellOne_123 : decode cX3_tellOne 123 = .ok (.invokevirtual 61, 3) := by decide +kernel
theorem dX3_tellOne_126 : decode cX3_tellOne 126 = .ok (.goto 7, 3) := by decide +kernel
theorem dX3_tellOne_129 : decode cX3_tellOne 129 = .ok (.aload_n 0, 1) := by decide +kernel
theorem dX3_tellOne_130 : decode cX3_tellOne 130 = .ok (.invokevirtual 70, 3) := by decide +kernel
theorem dX3_tellOne_133 : decode cX3_tellOne 133 = .ok (.aload_n 0, 1) := by decide +kernel
theorem dX3_tellOne_134 : decode cX3_tellOne 134 = .ok (.invokevirtual 73, 3) := by decide +kernel
theorem dX3_tellOne_137 : decode cX3_tellOne 137 = .ok (.return_, 1) := by decide +kernel
theorem dX3_kindHere_0 : decode cX3_kindHere 0 = .ok (.aload_n 0, 1) := by decide +kernel
theorem dX3_kindHere_1 : decode cX3_kindHere 1 = .ok (.ldc 76, 2) := by decide +kernel
theorem dX3_kindHere_3 : decode cX3_kindHere 3 = .ok (.invokevirtual 78, 3) := by decide +kernel
theorem dX3_kindHere_6 : decode cX3_kindHere 6 = .ok (.ifCond .eq 5, 3) := by decide +kernel
theorem dX3_kindHere_9 : decode cX3_kindHere 9 = .ok (.iconst 0, 1) := by decide +kernel
theorem dX3_kindHere_10 : decode cX3_kindHere 10 = .ok (.ireturn, 1) := by decide +kernel
theorem dX3_kindHere_11 : decode cX3_kindHere 11 = .ok (.aload_n 0, 1) := by decide +kernel
theorem dX3_kindHere_12 : decode cX3_kindHere 12 = .ok (.ldc 81, 2) := by decide +kernel
theorem dX3_kindHere_14 : decode cX3_kindHere 14 = .ok (.invokevirtual 78, 3) := by decide +kernel
theorem dX3_kindHere_17 : decode cX3_kindHere 17 = .ok (.ifCond .eq 5, 3) := by decide +kernel
theorem dX3_kindHere_20 : decode cX3_kindHere 20 = .ok (.iconst 1, 1) := by decide +kernel
theorem dX3_kindHere_21 : decode cX3_kindHere 21 = .ok (.ireturn, 1) := by decide +kernel
theorem dX3_kindHere_22 : decode cX3_kindHere 22 = .ok (.aload_n 0, 1) := by decide +kernel
theorem dX3_kindHere_23 : decode cX3_kindHere 23 = .ok (.ldc 83, 2) := by decide +kernel
theorem dX3_kindHere_25 : decode cX3_kindHere 25 = .ok (.invokevirtual 78, 3) := by decide +kernel
theorem dX3_kindHere_28 : decode cX3_kindHere 28 = .ok (.ifCond .eq 5, 3) := by decide +kernel
theorem dX3_kindHere_31 : decode cX3_kindHere 31 = .ok (.iconst 2, 1) := by decide +kernel
theorem dX3_kindHere_32 : decode cX3_kindHere 32 = .ok (.ireturn, 1) := by decide +kernel
theorem dX3_kindHere_33 : decode cX3_kindHere 33 = .ok (.aload_n 0, 1) := by decide +kernel
theorem dX3_kindHere_34 : decode cX3_kindHere 34 = .ok (.ldc 85, 2) := by decide +kernel
theorem dX3_kindHere_36 : decode cX3_kindHere 36 = .ok (.invokevirtual 78, 3) := by decide +kernel
theorem dX3_kindHere_39 : decode cX3_kindHere 39 = .ok (.ifCond .eq 5, 3) := by decide +kernel
theorem dX3_kindHere_42 : decode cX3_kindHere 42 = .ok (.iconst 3, 1) := by decide +kernel
theorem dX3_kindHere_43 : decode cX3_kindHere 43 = .ok (.ireturn, 1) := by decide +kernel
theorem dX3_kindHere_44 : decode cX3_kindHere 44 = .ok (.aload_n 0, 1) := by decide +kernel
theorem dX3_kindHere_45 : decode cX3_kindHere 45 = .ok (.ldc 87, 2) := by decide +kernel
theorem dX3_kindHere_47 : decode cX3_kindHere 47 = .ok (.invokevirtual 78, 3) := by decide +kernel
theorem dX3_kindHere_50 : decode cX3_kindHere 50 = .ok (.ifCond .eq 5, 3) := by decide +kernel
theorem dX3_kindHere_53 : decode cX3_kindHere 53 = .ok (.iconst 4, 1) := by decide +kernel
theorem dX3_kindHere_54 : decode cX3_kindHere 54 = .ok (.ireturn, 1) := by decide +kernel
theorem dX3_kindHere_55 : decode cX3_kindHere 55 = .ok (.aload_n 0, 1) := by decide +kernel
theorem dX3_kindHere_56 : decode cX3_kindHere 56 = .ok (.ldc 89, 2) := by decide +kernel
theorem dX3_kindHere_58 : decode cX3_kindHere 58 = .ok (.invokevirtual 78, 3) := by decide +kernel
theorem dX3_kindHere_61 : decode cX3_kindHere 61 = .ok (.ifCond .eq 7, 3) := by decide +kernel
theorem dX3_kindHere_64 : decode cX3_kindHere 64 = .ok (.iconst 5, 1) := by decide +kernel
theorem dX3_kindHere_65 : decode cX3_kindHere 65 = .ok (.goto 4, 3) := by decide +kernel
theorem dX3_kindHere_68 : decode cX3_kindHere 68 = .ok (.iconst (-1), 1) := by decide +kernel
theorem dX3_kindHere_69 : decode cX3_kindHere 69 = .ok (.ireturn, 1) := by decide +kernel
theorem dX3_tellAir_0 : decode cX3_tellAir 0 = .ok (.aload_n 1, 1) := by decide +kernel
theorem dX3_tellAir_1 : decode cX3_tellAir 1 = .ok (.getfield 91, 3) := by decide +kernel
theorem dX3_tellAir_4 : decode cX3_tellAir 4 = .ok (.bipush 8, 2) := by decide +kernel
theorem dX3_tellAir_6 : decode cX3_tellAir 6 = .ok (.if_icmp .lt 8, 3) := by decide +kernel
theorem dX3_tellAir_9 : decode cX3_tellAir 9 = .ok (.aload_n 0, 1) := by decide +kernel
theorem dX3_tellAir_10 : decode cX3_tellAir 10 = .ok (.invokevirtual 70, 3) := by decide +kernel
theorem dX3_tellAir_13 : decode cX3_tellAir 13 = .ok (.return_, 1) := by decide +kernel
theorem dX3_tellAir_14 : decode cX3_tellAir 14 = .ok (.aload_n 0, 1) := by decide +kernel
theorem dX3_tellAir_15 : decode cX3_tellAir 15 = .ok (.aload_n 0, 1) := by decide +kernel
theorem dX3_tellAir_16 : decode cX3_tellAir 16 = .ok (.invokevirtual 94, 3) := by decide +kernel
theorem dX3_tellAir_19 : decode cX3_tellAir 19 = .ok (.putfield 19, 3) := by decide +kernel
theorem dX3_tellAir_22 : decode cX3_tellAir 22 = .ok (.aload_n 0, 1) := by decide +kernel
theorem dX3_tellAir_23 : decode cX3_tellAir 23 = .ok (.ldc 97, 2) := by decide +kernel
theorem dX3_tellAir_25 : decode cX3_tellAir 25 = .ok (.invokevirtual 99, 3) := by decide +kernel
theorem dX3_tellAir_28 : decode cX3_tellAir 28 = .ok (.aload_n 0, 1) := by decide +kernel
theorem dX3_tellAir_29 : decode cX3_tellAir 29 = .ok (.iconst 0, 1) := by decide +kernel
theorem dX3_tellAir_30 : decode cX3_tellAir 30 = .ok (.bipush 15, 2) := by decide +kernel
theorem dX3_tellAir_32 : decode cX3_tellAir 32 = .ok (.invokevirtual 51, 3) := by decide +kernel
theorem dX3_tellAir_35 : decode cX3_tellAir 35 = .ok (.istore_n 3, 1) := by decide +kernel
theorem dX3_tellAir_36 : decode cX3_tellAir 36 = .ok (.aload_n 0, 1) := by decide +kernel
theorem dX3_tellAir_37 : decode cX3_tellAir 37 = .ok (.ldc 103, 2) := by decide +kernel
theorem dX3_tellAir_39 : decode cX3_tellAir 39 = .ok (.invokevirtual 42, 3) := by decide +kernel
theorem dX3_tellAir_42 : decode cX3_tellAir 42 = .ok (.ifCond .eq 13, 3) := by decide +kernel
theorem dX3_tellAir_45 : decode cX3_tellAir 45 = .ok (.aload_n 0, 1) := by decide +kernel
theorem dX3_tellAir_46 : decode cX3_tellAir 46 = .ok (.iconst 0, 1) := by decide +kernel
theorem dX3_tellAir_47 : decode cX3_tellAir 47 = .ok (.bipush 9, 2) := by decide +kernel
theorem dX3_tellAir_49 : decode cX3_tellAir 49 = .ok (.invokevirtual 51, 3) := by decide +kernel
theorem dX3_tellAir_52 : decode cX3_tellAir 52 = .ok (.goto 4, 3) := by decide +kernel
theorem dX3_tellAir_55 : decode cX3_tellAir 55 = .ok (.iconst 3, 1) := by decide +kernel
theorem dX3_tellAir_56 : decode cX3_tellAir 56 = .ok (.istore 4, 2) := by decide +kernel
theorem dX3_tellAir_58 : decode cX3_tellAir 58 = .ok (.aload_n 0, 1) := by decide +kernel
theorem dX3_tellAir_59 : decode cX3_tellAir 59 = .ok (.ldc 105, 2) := by decide +kernel
theorem dX3_tellAir_61 : decode cX3_tellAir 61 = .ok (.invokevirtual 42, 3) := by decide +kernel
theorem dX3_tellAir_64 : decode cX3_tellAir 64 = .ok (.ifCond .eq 13, 3) := by decide +kernel
theorem dX3_tellAir_67 : decode cX3_tellAir 67 = .ok (.aload_n 0, 1) := by decide +kernel
theorem dX3_tellAir_68 : decode cX3_tellAir 68 = .ok (.iconst 0, 1) := by decide +kernel
theorem dX3_tellAir_69 : decode cX3_tellAir 69 = .ok (.bipush 15, 2) := by decide +kernel
theorem dX3_tellAir_71 : decode cX3_tellAir 71 = .ok (.invokevirtual 51, 3) := by decide +kernel
theorem dX3_tellAir_74 : decode cX3_tellAir 74 = .ok (.goto 4, 3) := by decide +kernel
theorem dX3_tellAir_77 : decode cX3_tellAir 77 = .ok (.iconst 0, 1) := by decide +kernel
theorem dX3_tellAir_78 : decode cX3_tellAir 78 = .ok (.istore 5, 2) := by decide +kernel
theorem dX3_tellAir_80 : decode cX3_tellAir 80 = .ok (.aload_n 1, 1) := by decide +kernel
theorem dX3_tellAir_81 : decode cX3_tellAir 81 = .ok (.iload_n 2, 1) := by decide +kernel
theorem dX3_tellAir_82 : decode cX3_tellAir 82 = .ok (.iload 4, 2) := by decide +kernel
theorem dX3_tellAir_84 : decode cX3_tellAir 84 = .ok (.iload 5, 2) := by decide +kernel
theorem dX3_tellAir_86 : decode cX3_tellAir 86 = .ok (.iload_n 3, 1) := by decide +kernel
theorem dX3_tellAir_87 : decode cX3_tellAir 87 = .ok (.invokevirtual 107, 3) := by decide +kernel
theorem dX3_tellAir_90 : decode cX3_tellAir 90 = .ok (.pop, 1) := by decide +kernel
theorem dX3_tellAir_91 : decode cX3_tellAir 91 = .ok (.return_, 1) := by decide +kernel
theorem dX3_tellWet_0 : decode cX3_tellWet 0 = .ok (.aload_n 0, 1) := by decide +kernel
theorem dX3_tellWet_1 : decode cX3_tellWet 1 = .ok (.iconst 0, 1) := by decide +kernel
theorem dX3_tellWet_2 : decode cX3_tellWet 2 = .ok (.bipush 15, 2) := by decide +kernel
theorem dX3_tellWet_4 : decode cX3_tellWet 4 = .ok (.invokevirtual 51, 3) := by decide +kernel
theorem dX3_tellWet_7 : decode cX3_tellWet 7 = .ok (.istore_n 2, 1) := by decide +kernel
theorem dX3_tellWet_8 : decode cX3_tellWet 8 = .ok (.aload_n 0, 1) := by decide +kernel
theorem dX3_tellWet_9 : decode cX3_tellWet 9 = .ok (.ldc 111, 2) := by decide +kernel
theorem dX3_tellWet_11 : decode cX3_tellWet 11 = .ok (.invokevirtual 99, 3) := by decide +kernel
theorem dX3_tellWet_14 : decode cX3_tellWet 14 = .ok (.aload_n 1, 1) := by decide +kernel
theorem dX3_tellWet_15 : decode cX3_tellWet 15 = .ok (.getfield 113, 3) := by decide +kernel
theorem dX3_tellWet_18 : decode cX3_tellWet 18 = .ok (.iload_n 2, 1) := by decide +kernel
theorem dX3_tellWet_19 : decode cX3_tellWet 19 = .ok (.aload_n 0, 1) := by decide +kernel
theorem dX3_tellWet_20 : decode cX3_tellWet 20 = .ok (.iconst 0, 1) := by decide +kernel
theorem dX3_tellWet_21 : decode cX3_tellWet 21 = .ok (.bipush 99, 2) := by decide +kernel
theorem dX3_tellWet_23 : decode cX3_tellWet 23 = .ok (.invokevirtual 51, 3) := by decide +kernel
theorem dX3_tellWet_26 : decode cX3_tellWet 26 = .ok (.iastore, 1) := by decide +kernel
theorem dX3_tellWet_27 : decode cX3_tellWet 27 = .ok (.return_, 1) := by decide +kernel
theorem dX3_tellLaw_0 : decode cX3_tellLaw 0 = .ok (.aload_n 1, 1) := by decide +kernel
theorem dX3_tellLaw_1 : decode cX3_tellLaw 1 = .ok (.getfield 115, 3) := by decide +kernel
theorem dX3_tellLaw_4 : decode cX3_tellLaw 4 = .ok (.iload_n 2, 1) := by decide +kernel
theorem dX3_tellLaw_5 : decode cX3_tellLaw 5 = .ok (.aload_n 0, 1) := by decide +kernel
theorem dX3_tellLaw_6 : decode cX3_tellLaw 6 = .ok (.getstatic 118, 3) := by decide +kernel
theorem dX3_tellLaw_9 : decode cX3_tellLaw 9 = .ok (.iload_n 2, 1) := by decide +kernel
theorem dX3_tellLaw_10 : decode cX3_tellLaw 10 = .ok (.iaload, 1) := by decide +kernel
theorem dX3_tellLaw_11 : decode cX3_tellLaw 11 = .ok (.getstatic 121, 3) := by decide +kernel
theorem dX3_tellLaw_14 : decode cX3_tellLaw 14 = .ok (.iload_n 2, 1) := by decide +kernel
theorem dX3_tellLaw_15 : decode cX3_tellLaw 15 = .ok (.iaload, 1) := by decide +kernel
theorem dX3_tellLaw_16 : decode cX3_tellLaw 16 = .ok (.invokevirtual 51, 3) := by decide +kernel
theorem dX3_tellLaw_19 : decode cX3_tellLaw 19 = .ok (.iastore, 1) := by decide +kernel
theorem dX3_tellLaw_20 : decode cX3_tellLaw 20 = .ok (.return_, 1) := by decide +kernel
theorem dX3_number_0 : decode cX3_number 0 = .ok (.aload_n 0, 1) := by decide +kernel
theorem dX3_number_1 : decode cX3_number 1 = .ok (.invokevirtual 25, 3) := by decide +kernel
theorem dX3_number_4 : decode cX3_number 4 = .ok (.aload_n 0, 1) := by decide +kernel
theorem dX3_number_5 : decode cX3_number 5 = .ok (.invokevirtual 124, 3) := by decide +kernel
theorem dX3_number_8 : decode cX3_number 8 = .ok (.istore_n 3, 1) := by decide +kernel
theorem dX3_number_9 : decode cX3_number 9 = .ok (.iconst 0, 1) := by decide +kernel
theorem dX3_number_10 : decode cX3_number 10 = .ok (.istore 4, 2) := by decide +kernel
theorem dX3_number_12 : decode cX3_number 12 = .ok (.aload_n 0, 1) := by decide +kernel
theorem dX3_number_13 : decode cX3_number 13 = .ok (.getfield 19, 3) := by decide +kernel
theorem dX3_number_16 : decode cX3_number 16 = .ok (.istore 5, 2) := by decide +kernel
theorem dX3_number_18 : decode cX3_number 18 = .ok (.iload 5, 2) := by decide +kernel
theorem dX3_number_20 : decode cX3_number 20 = .ok (.iload_n 3, 1) := by decide +kernel
theorem dX3_number_21 : decode cX3_number 21 = .ok (.if_icmp .ge 38, 3) := by decide +kernel
theorem dX3_number_24 : decode cX3_number 24 = .ok (.iload 5, 2) := by decide +kernel
theorem dX3_number_26 : decode cX3_number 26 = .ok (.aload_n 0, 1) := by decide +kernel
theorem dX3_number_27 : decode cX3_number 27 = .ok (.getfield 19, 3) := by decide +kernel
theorem dX3_number_30 : decode cX3_number 30 = .ok (.iconst 3, 1) := by decide +kernel
theorem dX3_number_31 : decode cX3_number 31 = .ok (.iadd, 1) := by decide +kernel
theorem dX3_number_32 : decode cX3_number 32 = .ok (.if_icmp .ge 27, 3) := by decide +kernel
theorem dX3_number_35 : decode cX3_number 35 = .ok (.iload 4, 2) := by decide +kernel
theorem dX3_number_37 : decode cX3_number 37 = .ok (.bipush 10, 2) := by decide +kernel
theorem dX3_number_39 : decode cX3_number 39 = .ok (.imul, 1) := by decide +kernel
theorem dX3_number_40 : decode cX3_number 40 = .ok (.aload_n 0, 1) := by decide +kernel
theorem dX3_number_41 : decode cX3_number 41 = .ok (.getfield 11, 3) := by decide +kernel
theorem dX3_number_44 : decode cX3_number 44 = .ok (.iload 5, 2) := by decide +kernel
theorem dX3_number_46 : decode cX3_number 46 = .ok (.iaload, 1) := by decide +kernel
theorem dX3_number_47 : decode cX3_number 47 = .ok (.iadd, 1) := by decide +kernel
theorem dX3_number_48 : decode cX3_number 48 = .ok (.bipush 48, 2) := by decide +kernel
theorem dX3_number_50 : decode cX3_number 50 = .ok (.isub, 1) := by decide +kernel
theorem dX3_number_51 : decode cX3_number 51 = .ok (.istore 4, 2) := by decide +kernel
theorem dX3_number_53 : decode cX3_number 53 = .ok (.iinc 5 1, 3) := by decide +kernel
theorem dX3_number_56 : decode cX3_number 56 = .ok (.goto (-38), 3) := by decide +kernel
theorem dX3_number_59 : decode cX3_number 59 = .ok (.iload_n 3, 1) := by decide +kernel
theorem dX3_number_60 : decode cX3_number 60 = .ok (.aload_n 0, 1) := by decide +kernel
theorem dX3_number_61 : decode cX3_number 61 = .ok (.getfield 19, 3) := by decide +kernel
theorem dX3_number_64 : decode cX3_number 64 = .ok (.if_icmp .eq 23, 3) := by decide +kernel
theorem dX3_number_67 : decode cX3_number 67 = .ok (.iload_n 3, 1) := by decide +kernel
theorem dX3_number_68 : decode cX3_number 68 = .ok (.aload_n 0, 1) := by decide +kernel
theorem dX3_number_69 : decode cX3_number 69 = .ok (.getfield 19, 3) := by decide +kernel
theorem dX3_number_72 : decode cX3_number 72 = .ok (.iconst 3, 1) := by decide +kernel
theorem dX3_number_73 : decode cX3_number 73 = .ok (.iadd, 1) := by decide +kernel
theorem dX3_number_74 : decode cX3_number 74 = .ok (.if_icmp .gt 13, 3) := by decide +kernel
theorem dX3_number_77 : decode cX3_number 77 = .ok (.iload 4, 2) := by decide +kernel
theorem dX3_number_79 : decode cX3_number 79 = .ok (.iload_n 1, 1) := by decide +kernel
theorem dX3_number_80 : decode cX3_number 80 = .ok (.iload_n 2, 1) := by decide +kernel
theorem dX3_number_81 : decode cX3_number 81 = .ok (.invokestatic 127, 3) := by decide +kernel
theorem dX3_number_84 : decode cX3_number 84 = .ok (.ifCond .ne 9, 3) := by decide +kernel
theorem dX3_number_87 : decode cX3_number 87 = .ok (.aload_n 0, 1) := by decide +kernel
theorem dX3_number_88 : decode cX3_number 88 = .ok (.invokevirtual 70, 3) := by decide +kernel
theorem dX3_number_91 : decode cX3_number 91 = .ok (.iload_n 1, 1) := by decide +kernel
theorem dX3_number_92 : decode cX3_number 92 = .ok (.ireturn, 1) := by decide +kernel
theorem dX3_number_93 : decode cX3_number 93 = .ok (.aload_n 0, 1) := by decide +kernel
theorem dX3_number_94 : decode cX3_number 94 = .ok (.iload_n 3, 1) := by decide +kernel
theorem dX3_number_95 : decode cX3_number 95 = .ok (.putfield 19, 3) := by decide +kernel
theorem dX3_number_98 : decode cX3_number 98 = .ok (.iload 4, 2) := by decide +kernel
theorem dX3_number_100 : decode cX3_number 100 = .ok (.ireturn, 1) := by decide +kernel
theorem dX3_takeName_0 : decode cX3_takeName 0 = .ok (.aload_n 0, 1) := by decide +kernel
theorem dX3_takeName_1 : decode cX3_takeName 1 = .ok (.invokevirtual 25, 3) := by decide +kernel
theorem dX3_takeName_4 : decode cX3_takeName 4 = .ok (.aload_n 0, 1) := by decide +kernel
theorem dX3_takeName_5 : decode cX3_takeName 5 = .ok (.aload_n 1, 1) := by decide +kernel
theorem dX3_takeName_6 : decode cX3_takeName 6 = .ok (.invokevirtual 78, 3) := by decide +kernel
theorem dX3_takeName_9 : decode cX3_takeName 9 = .ok (.ifCond .eq 14, 3) := by decide +kernel
theorem dX3_takeName_12 : decode cX3_takeName 12 = .ok (.aload_n 0, 1) := by decide +kernel
theorem dX3_takeName_13 : decode cX3_takeName 13 = .ok (.aload_n 0, 1) := by decide +kernel
theorem dX3_takeName_14 : decode cX3_takeName 14 = .ok (.invokevirtual 94, 3) := by decide +kernel
theorem dX3_takeName_17 : decode cX3_takeName 17 = .ok (.putfield 19, 3) := by decide +kernel
theorem dX3_takeName_20 : decode cX3_takeName 20 = .ok (.goto 7, 3) := by decide +kernel
theorem dX3_takeName_23 : decode cX3_takeName 23 = .ok (.aload_n 0, 1) := by decide +kernel
theorem dX3_takeName_24 : decode cX3_takeName 24 = .ok (.invokevirtual 70, 3) := by decide +kernel
theorem dX3_takeName_27 : decode cX3_takeName 27 = .ok (.return_, 1) := by decide +kernel
theorem dX3_takesName_0 : decode cX3_takesName 0 = .ok (.aload_n 0, 1) := by decide +kernel
theorem dX3_takesName_1 : decode cX3_takesName 1 = .ok (.invokevirtual 25, 3) := by decide +kernel
theorem dX3_takesName_4 : decode cX3_takesName 4 = .ok (.aload_n 0, 1) := by decide +kernel
theorem dX3_takesName_5 : decode cX3_takesName 5 = .ok (.aload_n 1, 1) := by decide +kernel
theorem dX3_takesName_6 : decode cX3_takesName 6 = .ok (.invokevirtual 78, 3) := by decide +kernel
theorem dX3_takesName_9 : decode cX3_takesName 9 = .ok (.ifCond .ne 5, 3) := by decide +kernel
theorem dX3_takesName_12 : decode cX3_takesName 12 = .ok (.iconst 0, 1) := by decide +kernel
theorem dX3_takesName_13 : decode cX3_takesName 13 = .ok (.ireturn, 1) := by decide +kernel
theorem dX3_takesName_14 : decode cX3_takesName 14 = .ok (.aload_n 0, 1) := by decide +kernel
theorem dX3_takesName_15 : decode cX3_takesName 15 = .ok (.aload_n 0, 1) := by decide +kernel
theorem dX3_takesName_16 : decode cX3_takesName 16 = .ok (.invokevirtual 94, 3) := by decide +kernel
theorem dX3_takesName_19 : decode cX3_takesName 19 = .ok (.putfield 19, 3) := by decide +kernel
theorem dX3_takesName_22 : decode cX3_takesName 22 = .ok (.iconst 1, 1) := by decide +kernel
theorem dX3_takesName_23 : decode cX3_takesName 23 = .ok (.ireturn, 1) := by decide +kernel
theorem dX3_takeMark_0 : decode cX3_takeMark 0 = .ok (.aload_n 0, 1) := by decide +kernel
theorem dX3_takeMark_1 : decode cX3_takeMark 1 = .ok (.invokevirtual 25, 3) := by decide +kernel
theorem dX3_takeMark_4 : decode cX3_takeMark 4 = .ok (.aload_n 0, 1) := by decide +kernel
theorem dX3_takeMark_5 : decode cX3_takeMark 5 = .ok (.getfield 19, 3) := by decide +kernel
theorem dX3_takeMark_8 : decode cX3_takeMark 8 = .ok (.aload_n 0, 1) := by decide +kernel
theorem dX3_takeMark_9 : decode cX3_takeMark 9 = .ok (.getfield 15, 3) := by decide +kernel
theorem dX3_takeMark_12 : decode cX3_takeMark 12 = .ok (.if_icmp .ge 30, 3) := by decide +kernel
theorem dX3_takeMark_15 : decode cX3_takeMark 15 = .ok (.aload_n 0, 1) := by decide +kernel
theorem dX3_takeMark_16 : decode cX3_takeMark 16 = .ok (.getfield 11, 3) := by decide +kernel
theorem dX3_takeMark_19 : decode cX3_takeMark 19 = .ok (.aload_n 0, 1) := by decide +kernel
theorem dX3_takeMark_20 : decode cX3_takeMark 20 = .ok (.getfield 19, 3) := by decide +kernel
theorem dX3_takeMark_23 : decode cX3_takeMark 23 = .ok (.iaload, 1) := by decide +kernel
theorem dX3_takeMark_24 : decode cX3_takeMark 24 = .ok (.bipush 59, 2) := by decide +kernel
theorem dX3_takeMark_26 : decode cX3_takeMark 26 = .ok (.if_icmp .ne 16, 3) := by decide +kernel
theorem dX3_takeMark_29 : decode cX3_takeMark 29 = .ok (.aload_n 0, 1) := by decide +kernel
theorem dX3_takeMark_30 : decode cX3_takeMark 30 = .ok (.dup, 1) := by decide +kernel
theorem dX3_takeMark_31 : decode cX3_takeMark 31 = .ok (.getfield 19, 3) := by decide +kernel
theorem dX3_takeMark_34 : decode cX3_takeMark 34 = .ok (.iconst 1, 1) := by decide +kernel
theorem dX3_takeMark_35 : decode cX3_takeMark 35 = .ok (.iadd, 1) := by decide +kernel
theorem dX3_takeMark_36 : decode cX3_takeMark 36 = .ok (.putfield 19, 3) := by decide +kernel
theorem dX3_takeMark_39 : decode cX3_takeMark 39 = .ok (.goto 7, 3) := by decide +kernel
theorem dX3_takeMark_42 : decode cX3_takeMark 42 = .ok (.aload_n 0, 1) := by decide +kernel
theorem dX3_takeMark_43 : decode cX3_takeMark 43 = .ok (.invokevirtual 70, 3) := by decide +kernel
theorem dX3_takeMark_46 : decode cX3_takeMark 46 = .ok (.return_, 1) := by decide +kernel
theorem dX3_isNameHere_0 : decode cX3_isNameHere 0 = .ok (.aload_n 0, 1) := by decide +kernel
theorem dX3_isNameHere_1 : decode cX3_isNameHere 1 = .ok (.invokevirtual 94, 3) := by decide +kernel
theorem dX3_isNameHere_4 : decode cX3_isNameHere 4 = .ok (.aload_n 0, 1) := by decide +kernel
theorem dX3_isNameHere_5 : decode cX3_isNameHere 5 = .ok (.getfield 19, 3) := by decide +kernel
theorem dX3_isNameHere_8 : decode cX3_isNameHere 8 = .ok (.isub, 1) := by decide +kernel
theorem dX3_isNameHere_9 : decode cX3_isNameHere 9 = .ok (.aload_n 1, 1) := by decide +kernel
theorem dX3_isNameHere_10 : decode cX3_isNameHere 10 = .ok (.invokevirtual 131, 3) := by decide +kernel
theorem dX3_isNameHere_13 : decode cX3_isNameHere 13 = .ok (.if_icmp .eq 5, 3) := by decide +kernel
theorem dX3_isNameHere_16 : decode cX3_isNameHere 16 = .ok (.iconst 0, 1) := by decide +kernel
theorem dX3_isNameHere_17 : decode cX3_isNameHere 17 = .ok (.ireturn, 1) := by decide +kernel
theorem dX3_isNameHere_18 : decode cX3_isNameHere 18 = .ok (.iconst 0, 1) := by decide +kernel
theorem dX3_isNameHere_19 : decode cX3_isNameHere 19 = .ok (.istore_n 2, 1) := by decide +kernel
theorem dX3_isNameHere_20 : decode cX3_isNameHere 20 = .ok (.iload_n 2, 1) := by decide +kernel
theorem dX3_isNameHere_21 : decode cX3_isNameHere 21 = .ok (.aload_n 1, 1) := by decide +kernel
theorem dX3_isNameHere_22 : decode cX3_isNameHere 22 = .ok (.invokevirtual 131, 3) := by decide +kernel
theorem dX3_isNameHere_25 : decode cX3_isNameHere 25 = .ok (.if_icmp .ge 30, 3) := by decide +kernel
theorem dX3_isNameHere_28 : decode cX3_isNameHere 28 = .ok (.aload_n 0, 1) := by decide +kernel
theorem dX3_isNameHere_29 : decode cX3_isNameHere 29 = .ok (.getfield 11, 3) := by decide +kernel
theorem dX3_isNameHere_32 : decode cX3_isNameHere 32 = .ok (.aload_n 0, 1) := by decide +kernel
theorem dX3_isNameHere_33 : decode cX3_isNameHere 33 = .ok (.getfield 19, 3) := by decide +kernel
theorem dX3_isNameHere_36 : decode cX3_isNameHere 36 = .ok (.iload_n 2, 1) := by decide +kernel
theorem dX3_isNameHere_37 : decode cX3_isNameHere 37 = .ok (.iadd, 1) := by decide +kernel
theorem dX3_isNameHere_38 : decode cX3_isNameHere 38 = .ok (.iaload, 1) := by decide +kernel
theorem dX3_isNameHere_39 : decode cX3_isNameHere 39 = .ok (.aload_n 1, 1) := by decide +kernel
theorem dX3_isNameHere_40 : decode cX3_isNameHere 40 = .ok (.iload_n 2, 1) := by decide +kernel
theorem dX3_isNameHere_41 : decode cX3_isNameHere 41 = .ok (.invokevirtual 136, 3) := by decide +kernel
theorem dX3_isNameHere_44 : decode cX3_isNameHere 44 = .ok (.if_icmp .eq 5, 3) := by decide +kernel
theorem dX3_isNameHere_47 : decode cX3_isNameHere 47 = .ok (.iconst 0, 1) := by decide +kernel
theorem dX3_isNameHere_48 : decode cX3_isNameHere 48 = .ok (.ireturn, 1) := by decide +kernel
theorem dX3_isNameHere_49 : decode cX3_isNameHere 49 = .ok (.iinc 2 1, 3) := by decide +kernel
theorem dX3_isNameHere_52 : decode cX3_isNameHere 52 = .ok (.goto (-32), 3) := by decide +kernel
theorem dX3_isNameHere_55 : decode cX3_isNameHere 55 = .ok (.iconst 1, 1) := by decide +kernel
theorem dX3_isNameHere_56 : decode cX3_isNameHere 56 = .ok (.ireturn, 1) := by decide +kernel
theorem dX3_endOfName_0 : decode cX3_endOfName 0 = .ok (.aload_n 0, 1) := by decide +kernel
theorem dX3_endOfName_1 : decode cX3_endOfName 1 = .ok (.getfield 19, 3) := by decide +kernel
theorem dX3_endOfName_4 : decode cX3_endOfName 4 = .ok (.istore_n 1, 1) := by decide +kernel
theorem dX3_endOfName_5 : decode cX3_endOfName 5 = .ok (.iload_n 1, 1) := by decide +kernel
theorem dX3_endOfName_6 : decode cX3_endOfName 6 = .ok (.aload_n 0, 1) := by decide +kernel
theorem dX3_endOfName_7 : decode cX3_endOfName 7 = .ok (.getfield 15, 3) := by decide +kernel
theorem dX3_endOfName_10 : decode cX3_endOfName 10 = .ok (.if_icmp .ge 31, 3) := by decide +kernel
theorem dX3_endOfName_13 : decode cX3_endOfName 13 = .ok (.aload_n 0, 1) := by decide +kernel
theorem dX3_endOfName_14 : decode cX3_endOfName 14 = .ok (.getfield 11, 3) := by decide +kernel
theorem dX3_endOfName_17 : decode cX3_endOfName 17 = .ok (.iload_n 1, 1) := by decide +kernel
theorem dX3_endOfName_18 : decode cX3_endOfName 18 = .ok (.iaload, 1) := by decide +kernel
theorem dX3_endOfName_19 : decode cX3_endOfName 19 = .ok (.bipush 97, 2) := by decide +kernel
theorem dX3_endOfName_21 : decode cX3_endOfName 21 = .ok (.if_icmp .lt 20, 3) := by decide +kernel
theorem dX3_endOfName_24 : decode cX3_endOfName 24 = .ok (.aload_n 0, 1) := by decide +kernel
theorem dX3_endOfName_25 : decode cX3_endOfName 25 = .ok (.getfield 11, 3) := by decide +kernel
theorem dX3_endOfName_28 : decode cX3_endOfName 28 = .ok (.iload_n 1, 1) := by decide +kernel
theorem dX3_endOfName_29 : decode cX3_endOfName 29 = .ok (.iaload, 1) := by decide +kernel
theorem dX3_endOfName_30 : decode cX3_endOfName 30 = .ok (.bipush 122, 2) := by decide +kernel
theorem dX3_endOfName_32 : decode cX3_endOfName 32 = .ok (.if_icmp .gt 9, 3) := by decide +kernel
theorem dX3_endOfName_35 : decode cX3_endOfName 35 = .ok (.iinc 1 1, 3) := by decide +kernel
theorem dX3_endOfName_38 : decode cX3_endOfName 38 = .ok (.goto (-33), 3) := by decide +kernel
theorem dX3_endOfName_41 : decode cX3_endOfName 41 = .ok (.iload_n 1, 1) := by decide +kernel
theorem dX3_endOfName_42 : decode cX3_endOfName 42 = .ok (.ireturn, 1) := by decide +kernel
theorem dX3_endOfNumber_0 : decode cX3_endOfNumber 0 = .ok (.aload_n 0, 1) := by decide +kernel
theorem dX3_endOfNumber_1 : decode cX3_endOfNumber 1 = .ok (.getfield 19, 3) := by decide +kernel
theorem dX3_endOfNumber_4 : decode cX3_endOfNumber 4 = .ok (.istore_n 1, 1) := by decide +kernel
theorem dX3_endOfNumber_5 : decode cX3_endOfNumber 5 = .ok (.iload_n 1, 1) := by decide +kernel
theorem dX3_endOfNumber_6 : decode cX3_endOfNumber 6 = .ok (.aload_n 0, 1) := by decide +kernel
theorem dX3_endOfNumber_7 : decode cX3_endOfNumber 7 = .ok (.getfield 15, 3) := by decide +kernel
theorem dX3_endOfNumber_10 : decode cX3_endOfNumber 10 = .ok (.if_icmp .ge 31, 3) := by decide +kernel
theorem dX3_endOfNumber_13 : decode cX3_endOfNumber 13 = .ok (.aload_n 0, 1) := by decide +kernel
theorem dX3_endOfNumber_14 : decode cX3_endOfNumber 14 = .ok (.getfield 11, 3) := by decide +kernel
theorem dX3_endOfNumber_17 : decode cX3_endOfNumber 17 = .ok (.iload_n 1, 1) := by decide +kernel
theorem dX3_endOfNumber_18 : decode cX3_endOfNumber 18 = .ok (.iaload, 1) := by decide +kernel
theorem dX3_endOfNumber_19 : decode cX3_endOfNumber 19 = .ok (.bipush 48, 2) := by decide +kernel
theorem dX3_endOfNumber_21 : decode cX3_endOfNumber 21 = .ok (.if_icmp .lt 20, 3) := by decide +kernel
theorem dX3_endOfNumber_24 : decode cX3_endOfNumber 24 = .ok (.aload_n 0, 1) := by decide +kernel
theorem dX3_endOfNumber_25 : decode cX3_endOfNumber 25 = .ok (.getfield 11, 3) := by decide +kernel
theorem dX3_endOfNumber_28 : decode cX3_endOfNumber 28 = .ok (.iload_n 1, 1) := by decide +kernel
theorem dX3_endOfNumber_29 : decode cX3_endOfNumber 29 = .ok (.iaload, 1) := by decide +kernel
theorem dX3_endOfNumber_30 : decode cX3_endOfNumber 30 = .ok (.bipush 57, 2) := by decide +kernel
theorem dX3_endOfNumber_32 : decode cX3_endOfNumber 32 = .ok (.if_icmp .gt 9, 3) := by decide +kernel
theorem dX3_endOfNumber_35 : decode cX3_endOfNumber 35 = .ok (.iinc 1 1, 3) := by decide +kernel
theorem dX3_endOfNumber_38 : decode cX3_endOfNumber 38 = .ok (.goto (-33), 3) := by decide +kernel
theorem dX3_endOfNumber_41 : decode cX3_endOfNumber 41 = .ok (.iload_n 1, 1) := by decide +kernel
theorem dX3_endOfNumber_42 : decode cX3_endOfNumber 42 = .ok (.ireturn, 1) := by decide +kernel
theorem dX3_skipBlanks_0 : decode cX3_skipBlanks 0 = .ok (.aload_n 0, 1) := by decide +kernel
theorem dX3_skipBlanks_1 : decode cX3_skipBlanks 1 = .ok (.getfield 19, 3) := by decide +kernel
theorem dX3_skipBlanks_4 : decode cX3_skipBlanks 4 = .ok (.aload_n 0, 1) := by decide +kernel
theorem dX3_skipBlanks_5 : decode cX3_skipBlanks 5 = .ok (.getfield 15, 3) := by decide +kernel
theorem dX3_skipBlanks_8 : decode cX3_skipBlanks 8 = .ok (.if_icmp .ge 30, 3) := by decide +kernel
theorem dX3_skipBlanks_11 : decode cX3_skipBlanks 11 = .ok (.aload_n 0, 1) := by decide +kernel
theorem dX3_skipBlanks_12 : decode cX3_skipBlanks 12 = .ok (.getfield 11, 3) := by decide +kernel
theorem dX3_skipBlanks_15 : decode cX3_skipBlanks 15 = .ok (.aload_n 0, 1) := by decide +kernel
theorem dX3_skipBlanks_16 : decode cX3_skipBlanks 16 = .ok (.getfield 19, 3) := by decide +kernel
theorem dX3_skipBlanks_19 : decode cX3_skipBlanks 19 = .ok (.iaload, 1) := by decide +kernel
theorem dX3_skipBlanks_20 : decode cX3_skipBlanks 20 = .ok (.bipush 32, 2) := by decide +kernel
theorem dX3_skipBlanks_22 : decode cX3_skipBlanks 22 = .ok (.if_icmp .ne 16, 3) := by decide +kernel
theorem dX3_skipBlanks_25 : decode cX3_skipBlanks 25 = .ok (.aload_n 0, 1) := by decide +kernel
theorem dX3_skipBlanks_26 : decode cX3_skipBlanks 26 = .ok (.dup, 1) := by decide +kernel
theorem dX3_skipBlanks_27 : decode cX3_skipBlanks 27 = .ok (.getfield 19, 3) := by decide +kernel
theorem dX3_skipBlanks_30 : decode cX3_skipBlanks 30 = .ok (.iconst 1, 1) := by decide +kernel
theorem dX3_skipBlanks_31 : decode cX3_skipBlanks 31 = .ok (.iadd, 1) := by decide +kernel
theorem dX3_skipBlanks_32 : decode cX3_skipBlanks 32 = .ok (.putfield 19, 3) := by decide +kernel
theorem dX3_skipBlanks_35 : decode cX3_skipBlanks 35 = .ok (.goto (-35), 3) := by decide +kernel
theorem dX3_skipBlanks_38 : decode cX3_skipBlanks 38 = .ok (.return_, 1) := by decide +kernel
theorem dX3_findFault_0 : decode cX3_findFault 0 = .ok (.aload_n 0, 1) := by decide +kernel
theorem dX3_findFault_1 : decode cX3_findFault 1 = .ok (.getfield 22, 3) := by decide +kernel
theorem dX3_findFault_4 : decode cX3_findFault 4 = .ok (.ifCond .ge 11, 3) := by decide +kernel
theorem dX3_findFault_7 : decode cX3_findFault 7 = .ok (.aload_n 0, 1) := by decide +kernel
theorem dX3_findFault_8 : decode cX3_findFault 8 = .ok (.aload_n 0, 1) := by decide +kernel
theorem dX3_findFault_9 : decode cX3_findFault 9 = .ok (.getfield 19, 3) := by decide +kernel
theorem dX3_findFault_12 : decode cX3_findFault 12 = .ok (.putfield 22, 3) := by decide +kernel
theorem dX3_findFault_15 : decode cX3_findFault 15 = .ok (.return_, 1) := by decide +kernel
theorem dX4_init_0 : decode cX4_init 0 = .ok (.aload_n 0, 1) := by decide +kernel
theorem dX4_init_1 : decode cX4_init 1 = .ok (.invokespecial 3, 3) := by decide +kernel
theorem dX4_init_4 : decode cX4_init 4 = .ok (.aload_n 0, 1) := by decide +kernel
theorem dX4_init_5 : decode cX4_init 5 = .ok (.iconst 4, 1) := by decide +kernel
theorem dX4_init_6 : decode cX4_init 6 = .ok (.newarray .int, 2) := by decide +kernel
theorem dX4_init_8 : decode cX4_init 8 = .ok (.putfield 9, 3) := by decide +kernel
theorem dX4_init_11 : decode cX4_init 11 = .ok (.aload_n 0, 1) := by decide +kernel
theorem dX4_init_12 : decode cX4_init 12 = .ok (.bipush 16, 2) := by decide +kernel
theorem dX4_init_14 : decode cX4_init 14 = .ok (.newarray .int, 2) := by decide +kernel
theorem dX4_init_16 : decode cX4_init 16 = .ok (.putfield 15, 3) := by decide +kernel
theorem dX4_init_19 : decode cX4_init 19 = .ok (.aload_n 0, 1) := by decide +kernel
theorem dX4_init_20 : decode cX4_init 20 = .ok (.bipush 8, 2) := by decide +kernel
theorem dX4_init_22 : decode cX4_init 22 = .ok (.newarray .int, 2) := by decide +kernel
theorem dX4_init_24 : decode cX4_init 24 = .ok (.putfield 18, 3) := by decide +kernel
theorem dX4_init_27 : decode cX4_init 27 = .ok (.aload_n 0, 1) := by decide +kernel
theorem dX4_init_28 : decode cX4_init 28 = .ok (.bipush 8, 2) := by decide +kernel
theorem dX4_init_30 : decode cX4_init 30 = .ok (.newarray .int, 2) := by decide +kernel
theorem dX4_init_32 : decode cX4_init 32 = .ok (.putfield 21, 3) := by decide +kernel
theorem dX4_init_35 : decode cX4_init 35 = .ok (.aload_n 0, 1) := by decide +kernel
theorem dX4_init_36 : decode cX4_init 36 = .ok (.bipush 8, 2) := by decide +kernel
theorem dX4_init_38 : decode cX4_init 38 = .ok (.newarray .int, 2) := by decide +kernel
theorem dX4_init_40 : decode cX4_init 40 = .ok (.putfield 24, 3) := by decide +kernel
theorem dX4_init_43 : decode cX4_init 43 = .ok (.aload_n 0, 1) := by decide +kernel
theorem dX4_init_44 : decode cX4_init 44 = .ok (.bipush 8, 2) := by decide +kernel
theorem dX4_init_46 : decode cX4_init 46 = .ok (.newarray .int, 2) := by decide +kernel
theorem dX4_init_48 : decode cX4_init 48 = .ok (.putfield 27, 3) := by decide +kernel
theorem dX4_init_51 : decode cX4_init 51 = .ok (.aload_n 0, 1) := by decide +kernel
theorem dX4_init_52 : decode cX4_init 52 = .ok (.iconst 1, 1) := by decide +kernel
theorem dX4_init_53 : decode cX4_init 53 = .ok (.putfield 30, 3) := by decide +kernel
theorem dX4_init_56 : decode cX4_init 56 = .ok (.getstatic 34, 3) := by decide +kernel
theorem dX4_init_59 : decode cX4_init 59 = .ok (.iconst 0, 1) := by decide +kernel
theorem dX4_init_60 : decode cX4_init 60 = .ok (.aload_n 0, 1) := by decide +kernel
theorem dX4_init_61 : decode cX4_init 61 = .ok (.getfield 9, 3) := by decide +kernel
theorem dX4_init_64 : decode cX4_init 64 = .ok (.iconst 0, 1) := by decide +kernel
theorem dX4_init_65 : decode cX4_init 65 = .ok (.iconst 4, 1) := by decide +kernel
theorem dX4_init_66 : decode cX4_init 66 = .ok (.invokestatic 37, 3) := by decide +kernel
theorem dX4_init_69 : decode cX4_init 69 = .ok (.return_, 1) := by decide +kernel
theorem dX4_clear_0 : decode cX4_clear 0 = .ok (.getstatic 34, 3) := by decide +kernel
theorem dX4_clear_3 : decode cX4_clear 3 = .ok (.iconst 0, 1) := by decide +kernel
theorem dX4_clear_4 : decode cX4_clear 4 = .ok (.aload_n 0, 1) := by decide +kernel
theorem dX4_clear_5 : decode cX4_clear 5 = .ok (.getfield 9, 3) := by decide +kernel
theorem dX4_clear_8 : decode cX4_clear 8 = .ok (.iconst 0, 1) := by decide +kernel
theorem dX4_clear_9 : decode cX4_clear 9 = .ok (.iconst 4, 1) := by decide +kernel
theorem dX4_clear_10 : decode cX4_clear 10 = .ok (.invokestatic 37, 3) := by decide +kernel
theorem dX4_clear_13 : decode cX4_clear 13 = .ok (.aload_n 0, 1) := by decide +kernel
theorem dX4_clear_14 : decode cX4_clear 14 = .ok (.getfield 15, 3) := by decide +kernel
theorem dX4_clear_17 : decode cX4_clear 17 = .ok (.iconst 0, 1) := by decide +kernel
theorem dX4_clear_18 : decode cX4_clear 18 = .ok (.invokestatic 43, 3) := by decide +kernel
theorem dX4_clear_21 : decode cX4_clear 21 = .ok (.aload_n 0, 1) := by decide +kernel
theorem dX4_clear_22 : decode cX4_clear 22 = .ok (.iconst 0, 1) := by decide +kernel
theorem dX4_clear_23 : decode cX4_clear 23 = .ok (.putfield 49, 3) := by decide +kernel
theorem dX4_clear_26 : decode cX4_clear 26 = .ok (.aload_n 0, 1) := by decide +kernel
theorem dX4_clear_27 : decode cX4_clear 27 = .ok (.iconst 0, 1) := by decide +kernel
theorem dX4_clear_28 : decode cX4_clear 28 = .ok (.putfield 52, 3) := by decide +kernel
theorem dX4_clear_31 : decode cX4_clear 31 = .ok (.aload_n 0, 1) := by decide +kernel
theorem dX4_clear_32 : decode cX4_clear 32 = .ok (.iconst 0, 1) := by decide +kernel
theorem dX4_clear_33 : decode cX4_clear 33 = .ok (.putfield 55, 3) := by decide +kernel
theorem dX4_clear_36 : decode cX4_clear 36 = .ok (.return_, 1) := by decide +kernel
theorem dX4_become_0 : decode cX4_become 0 = .ok (.aload_n 1, 1) := by decide +kernel
theorem dX4_become_1 : decode cX4_become 1 = .ok (.getfield 9, 3) := by decide +kernel
theorem dX4_become_4 : decode cX4_become 4 = .ok (.iconst 0, 1) := by decide +kernel
theorem dX4_become_5 : decode cX4_become 5 = .ok (.aload_n 0, 1) := by decide +kernel
theorem dX4_become_6 : decode cX4_become 6 = .ok (.getfield 9, 3) := by decide +kernel
theorem dX4_become_9 : decode cX4_become 9 = .ok (.iconst 0, 1) := by decide +kernel
theorem dX4_become_10 : decode cX4_become 10 = .ok (.iconst 4, 1) := by decide +kernel
theorem dX4_become_11 : decode cX4_become 11 = .ok (.invokestatic 37, 3) := by decide +kernel
theorem dX4_become_14 : decode cX4_become 14 = .ok (.aload_n 1, 1) := by decide +kernel
theorem dX4_become_15 : decode cX4_become 15 = .ok (.getfield 15, 3) := by decide +kernel
theorem dX4_become_18 : decode cX4_become 18 = .ok (.iconst 0, 1) := by decide +kernel
theorem dX4_become_19 : decode cX4_become 19 = .ok (.aload_n 0, 1) := by decide +kernel
theorem dX4_become_20 : decode cX4_become 20 = .ok (.getfield 15, 3) := by decide +kernel
theorem dX4_become_23 : decode cX4_become 23 = .ok (.iconst 0, 1) := by decide +kernel
theorem dX4_become_24 : decode cX4_become 24 = .ok (.bipush 16, 2) := by decide +kernel
theorem dX4_become_26 : decode cX4_become 26 = .ok (.invokestatic 37, 3) := by decide +kernel
theorem dX4_become_29 : decode cX4_become 29 = .ok (.aload_n 1, 1) := by decide +kernel
theorem dX4_become_30 : decode cX4_become 30 = .ok (.getfield 18, 3) := by decide +kernel
theorem dX4_become_33 : decode cX4_become 33 = .ok (.iconst 0, 1) := by decide +kernel
theorem dX4_become_34 : decode cX4_become 34 = .ok (.aload_n 0, 1) := by decide +kernel
theorem dX4_become_35 : decode cX4_become 35 = .ok (.getfield 18, 3) := by decide +kernel
theorem dX4_become_38 : decode cX4_become 38 = .ok (.iconst 0, 1) := by decide +kernel
theorem dX4_become_39 : decode cX4_become 39 = .ok (.bipush 8, 2) := by decide +kernel
theorem dX4_become_41 : decode cX4_become 41 = .ok (.invokestatic 37, 3) := by decide +kernel
theorem dX4_become_44 : decode cX4_become 44 = .ok (.aload_n 1, 1) := by decide +kernel
theorem dX4_become_45 : decode cX4_become 45 = .ok (.getfield 21, 3) := by decide +kernel
theorem dX4_become_48 : decode cX4_become 48 = .ok (.iconst 0, 1) := by decide +kernel
theorem dX4_become_49 : decode cX4_become 49 = .ok (.aload_n 0, 1) := by decide +kernel
theorem dX4_become_50 : decode cX4_become 50 = .ok (.getfield 21, 3) := by decide +kernel
theorem dX4_become_53 : decode cX4_become 53 = .ok (.iconst 0, 1) := by decide +kernel
theorem dX4_become_54 : decode cX4_become 54 = .ok (.bipush 8, 2) := by decide +kernel
theorem dX4_become_56 : decode cX4_become 56 = .ok (.invokestatic 37, 3) := by decide +kernel
theorem dX4_become_59 : decode cX4_become 59 = .ok (.aload_n 1, 1) := by decide +kernel
theorem dX4_become_60 : decode cX4_become 60 = .ok (.getfield 24, 3) := by decide +kernel
theorem dX4_become_63 : decode cX4_become 63 = .ok (.iconst 0, 1) := by decide +kernel
theorem dX4_become_64 : decode cX4_become 64 = .ok (.aload_n 0, 1) := by decide +kernel
theorem dX4_become_65 : decode cX4_become 65 = .ok (.getfield 24, 3) := by decide +kernel
theorem dX4_become_68 : decode cX4_become 68 = .ok (.iconst 0, 1) := by decide +kernel
theorem dX4_become_69 : decode cX4_become 69 = .ok (.bipush 8, 2) := by decide +kernel
theorem dX4_become_71 : decode cX4_become 71 = .ok (.invokestatic 37, 3) := by decide +kernel
theorem dX4_become_74 : decode cX4_become 74 = .ok (.aload_n 1, 1) := by decide +kernel
theorem dX4_become_75 : decode cX4_become 75 = .ok (.getfield 27, 3) := by decide +kernel
theorem dX4_become_78 : decode cX4_become 78 = .ok (.iconst 0, 1) := by decide +kernel
theorem dX4_become_79 : decode cX4_become 79 = .ok (.aload_n 0, 1) := by decide +kernel
theorem dX4_become_80 : decode cX4_become 80 = .ok (.getfield 27, 3) := by decide +kernel
theorem dX4_become_83 : decode cX4_become 83 = .ok (.iconst 0, 1) := by decide +kernel
theorem dX4_become_84 : decode cX4_become 84 = .ok (.bipush 8, 2) := by decide +kernel
theorem dX4_become_86 : decode cX4_become 86 = .ok (.invokestatic 37, 3) := by decide +kernel
theorem dX4_become_89 : decode cX4_become 89 = .ok (.aload_n 0, 1) := by decide +kernel
theorem dX4_become_90 : decode cX4_become 90 = .ok (.aload_n 1, 1) := by decide +kernel
theorem dX4_become_91 : decode cX4_become 91 = .ok (.getfield 49, 3) := by decide +kernel
theorem dX4_become_94 : decode cX4_become 94 = .ok (.putfield 49, 3) := by decide +kernel
theorem dX4_become_97 : decode cX4_become 97 = .ok (.aload_n 0, 1) := by decide +kernel
theorem dX4_become_98 : decode cX4_become 98 = .ok (.aload_n 1, 1) := by decide +kernel
theorem dX4_become_99 : decode cX4_become 99 = .ok (.getfield 52, 3) := by decide +kernel
theorem dX4_become_102 : decode cX4_become 102 = .ok (.putfield 52, 3) := by decide +kernel
theorem dX4_become_105 : decode cX4_become 105 = .ok (.aload_n 0, 1) := by decide +kernel
theorem dX4_become_106 : decode cX4_become 106 = .ok (.aload_n 1, 1) := by decide +kernel
theorem dX4_become_107 : decode cX4_become 107 = .ok (.getfield 55, 3) := by decide +kernel
theorem dX4_become_110 : decode cX4_become 110 = .ok (.putfield 55, 3) := by decide +kernel
theorem dX4_become_113 : decode cX4_become 113 = .ok (.aload_n 0, 1) := by decide +kernel
theorem dX4_become_114 : decode cX4_become 114 = .ok (.aload_n 1, 1) := by decide +kernel
theorem dX4_become_115 : decode cX4_become 115 = .ok (.getfield 30, 3) := by decide +kernel
theorem dX4_become_118 : decode cX4_become 118 = .ok (.putfield 30, 3) := by decide +kernel
theorem dX4_become_121 : decode cX4_become 121 = .ok (.return_, 1) := by decide +kernel
theorem dX4_has_0 : decode cX4_has 0 = .ok (.iload_n 1, 1) := by decide +kernel
theorem dX4_has_1 : decode cX4_has 1 = .ok (.iconst 0, 1) := by decide +kernel
theorem dX4_has_2 : decode cX4_has 2 = .ok (.aload_n 0, 1) := by decide +kernel
theorem dX4_has_3 : decode cX4_has 3 = .ok (.getfield 49, 3) := by decide +kernel
theorem dX4_has_6 : decode cX4_has 6 = .ok (.iconst 1, 1) := by decide +kernel
theorem dX4_has_7 : decode cX4_has 7 = .ok (.isub, 1) := by decide +kernel
theorem dX4_has_8 : decode cX4_has 8 = .ok (.invokestatic 58, 3) := by decide +kernel
theorem dX4_has_11 : decode cX4_has 11 = .ok (.ireturn, 1) := by decide +kernel
theorem dX4_add_0 : decode cX4_add 0 = .ok (.aload_n 0, 1) := by decide +kernel
theorem dX4_add_1 : decode cX4_add 1 = .ok (.getfield 49, 3) := by decide +kernel
theorem dX4_add_4 : decode cX4_add 4 = .ok (.bipush 8, 2) := by decide +kernel
theorem dX4_add_6 : decode cX4_add 6 = .ok (.if_icmp .lt 5, 3) := by decide +kernel
theorem dX4_add_9 : decode cX4_add 9 = .ok (.iconst 0, 1) := by decide +kernel
theorem dX4_add_10 : decode cX4_add 10 = .ok (.ireturn, 1) := by decide +kernel
theorem dX4_add_11 : decode cX4_add 11 = .ok (.aload_n 0, 1) := by decide +kernel
theorem dX4_add_12 : decode cX4_add 12 = .ok (.getfield 18, 3) := by decide +kernel
theorem dX4_add_15 : decode cX4_add 15 = .ok (.aload_n 0, 1) := by decide +kernel
theorem dX4_add_16 : decode cX4_add 16 = .ok (.getfield 49, 3) := by decide +kernel
theorem dX4_add_19 : decode cX4_add 19 = .ok (.iload_n 1, 1) := by decide +kernel
theorem dX4_add_20 : decode cX4_add 20 = .ok (.iastore, 1) := by decide +kernel
theorem dX4_add_21 : decode cX4_add 21 = .ok (.aload_n 0, 1) := by decide +kernel
theorem dX4_add_22 : decode cX4_add 22 = .ok (.getfield 21, 3) := by decide +kernel
theorem dX4_add_25 : decode cX4_add 25 = .ok (.aload_n 0, 1) := by decide +kernel
theorem dX4_add_26 : decode cX4_add 26 = .ok (.getfield 49, 3) := by decide +kernel
theorem dX4_add_29 : decode cX4_add 29 = .ok (.iload_n 2, 1) := by decide +kernel
theorem dX4_add_30 : decode cX4_add 30 = .ok (.iastore, 1) := by decide +kernel
theorem dX4_add_31 : decode cX4_add 31 = .ok (.aload_n 0, 1) := by decide +kernel
theorem dX4_add_32 : decode cX4_add 32 = .ok (.getfield 24, 3) := by decide +kernel
theorem dX4_add_35 : decode cX4_add 35 = .ok (.aload_n 0, 1) := by decide +kernel
theorem dX4_add_36 : decode cX4_add 36 = .ok (.getfield 49, 3) := by decide +kernel
theorem dX4_add_39 : decode cX4_add 39 = .ok (.iload_n 3, 1) := by decide +kernel
theorem dX4_add_40 : decode cX4_add 40 = .ok (.iastore, 1) := by decide +kernel
theorem dX4_add_41 : decode cX4_add 41 = .ok (.aload_n 0, 1) := by decide +kernel
theorem dX4_add_42 : decode cX4_add 42 = .ok (.getfield 27, 3) := by decide +kernel
theorem dX4_add_45 : decode cX4_add 45 = .ok (.aload_n 0, 1) := by decide +kernel
theorem dX4_add_46 : decode cX4_add 46 = .ok (.getfield 49, 3) := by decide +kernel
theorem dX4_add_49 : decode cX4_add 49 = .ok (.iload 4, 2) := by decide +kernel
theorem dX4_add_51 : decode cX4_add 51 = .ok (.iastore, 1) := by decide +kernel
theorem dX4_add_52 : decode cX4_add 52 = .ok (.aload_n 0, 1) := by decide +kernel
theorem dX4_add_53 : decode cX4_add 53 = .ok (.dup, 1) := by decide +kernel
theorem dX4_add_54 : decode cX4_add 54 = .ok (.getfield 49, 3) := by decide +kernel
theorem dX4_add_57 : decode cX4_add 57 = .ok (.iconst 1, 1) := by decide +kernel
theorem dX4_add_58 : decode cX4_add 58 = .ok (.iadd, 1) := by decide +kernel
theorem dX4_add_59 : decode cX4_add 59 = .ok (.putfield 49, 3) := by decide +kernel
theorem dX4_add_62 : decode cX4_add 62 = .ok (.iconst 1, 1) := by decide +kernel
theorem dX4_add_63 : decode cX4_add 63 = .ok (.ireturn, 1) := by decide +kernel
theorem dX4_goes_0 : decode cX4_goes 0 = .ok (.aload_n 0, 1) := by decide +kernel
theorem dX4_goes_1 : decode cX4_goes 1 = .ok (.iload_n 1, 1) := by decide +kernel
theorem dX4_goes_2 : decode cX4_goes 2 = .ok (.invokevirtual 62, 3) := by decide +kernel
theorem dX4_goes_5 : decode cX4_goes 5 = .ok (.istore_n 2, 1) := by decide +kernel
theorem dX4_goes_6 : decode cX4_goes 6 = .ok (.aload_n 0, 1) := by decide +kernel
theorem dX4_goes_7 : decode cX4_goes 7 = .ok (.getfield 27, 3) := by decide +kernel
theorem dX4_goes_10 : decode cX4_goes 10 = .ok (.iload_n 1, 1) := by decide +kernel
theorem dX4_goes_11 : decode cX4_goes 11 = .ok (.iaload, 1) := by decide +kernel
theorem dX4_goes_12 : decode cX4_goes 12 = .ok (.iload_n 2, 1) := by decide +kernel
theorem dX4_goes_13 : decode cX4_goes 13 = .ok (.invokestatic 66, 3) := by decide +kernel
theorem dX4_goes_16 : decode cX4_goes 16 = .ok (.aload_n 0, 1) := by decide +kernel
theorem dX4_goes_17 : decode cX4_goes 17 = .ok (.getfield 27, 3) := by decide +kernel
theorem dX4_goes_20 : decode cX4_goes 20 = .ok (.iload_n 1, 1) := by decide +kernel
theorem dX4_goes_21 : decode cX4_goes 21 = .ok (.iaload, 1) := by decide +kernel
theorem dX4_goes_22 : decode cX4_goes 22 = .ok (.if_icmp .ne 7, 3) := by decide +kernel
theorem dX4_goes_25 : decode cX4_goes 25 = .ok (.iconst 4, 1) := by decide +kernel
theorem dX4_goes_26 : decode cX4_goes 26 = .ok (.goto 4, 3) := by decide +kernel
theorem dX4_goes_29 : decode cX4_goes 29 = .ok (.iload_n 2, 1) := by decide +kernel
theorem dX4_goes_30 : decode cX4_goes 30 = .ok (.ireturn, 1) := by decide +kernel
theorem dX4_wayWanted_0 : decode cX4_wayWanted 0 = .ok (.aload_n 0, 1) := by decide +kernel
theorem dX4_wayWanted_1 : decode cX4_wayWanted 1 = .ok (.getfield 18, 3) := by decide +kernel
theorem dX4_wayWanted_4 : decode cX4_wayWanted 4 = .ok (.iload_n 1, 1) := by decide +kernel
theorem dX4_wayWanted_5 : decode cX4_wayWanted 5 = .ok (.iaload, 1) := by decide +kernel
theorem dX4_wayWanted_6 : decode cX4_wayWanted 6 = .ok (.tableswitch 113 1 5 #[34, 58, 63, 79, 111], 34) := by decide +kernel
theorem dX4_wayWanted_40 : decode cX4_wayWanted 40 = .ok (.aload_n 0, 1) := by decide +kernel
theorem dX4_wayWanted_41 : decode cX4_wayWanted 41 = .ok (.getfield 21, 3) := by decide +kernel
theorem dX4_wayWanted_44 : decode cX4_wayWanted 44 = .ok (.iload_n 1, 1) := by decide +kernel
theorem dX4_wayWanted_45 : decode cX4_wayWanted 45 = .ok (.iaload, 1) := by decide +kernel
theorem dX4_wayWanted_46 : decode cX4_wayWanted 46 = .ok (.aload_n 0, 1) := by decide +kernel
theorem dX4_wayWanted_47 : decode cX4_wayWanted 47 = .ok (.getfield 9, 3) := by decide +kernel
theorem dX4_wayWanted_50 : decode cX4_wayWanted 50 = .ok (.iconst 2, 1) := by decide +kernel
theorem dX4_wayWanted_51 : decode cX4_wayWanted 51 = .ok (.iaload, 1) := by decide +kernel
theorem dX4_wayWanted_52 : decode cX4_wayWanted 52 = .ok (.if_icmp .ge 7, 3) := by decide +kernel
theorem dX4_wayWanted_55 : decode cX4_wayWanted 55 = .ok (.iconst 4, 1) := by decide +kernel
theorem dX4_wayWanted_56 : decode cX4_wayWanted 56 = .ok (.goto 7, 3) := by decide +kernel
theorem dX4_wayWanted_59 : decode cX4_wayWanted 59 = .ok (.aload_n 0, 1) := by decide +kernel
theorem dX4_wayWanted_60 : decode cX4_wayWanted 60 = .ok (.getfield 55, 3) := by decide +kernel
theorem dX4_wayWanted_63 : decode cX4_wayWanted 63 = .ok (.ireturn, 1) := by decide +kernel
theorem dX4_wayWanted_64 : decode cX4_wayWanted 64 = .ok (.aload_n 0, 1) := by decide +kernel
theorem dX4_wayWanted_65 : decode cX4_wayWanted 65 = .ok (.invokevirtual 70, 3) := by decide +kernel
theorem dX4_wayWanted_68 : decode cX4_wayWanted 68 = .ok (.ireturn, 1) := by decide +kernel
theorem dX4_wayWanted_69 : decode cX4_wayWanted 69 = .ok (.aload_n 0, 1) := by decide +kernel
theorem dX4_wayWanted_70 : decode cX4_wayWanted 70 = .ok (.getfield 27, 3) := by decide +kernel
theorem dX4_wayWanted_73 : decode cX4_wayWanted 73 = .ok (.iload_n 1, 1) := by decide +kernel
theorem dX4_wayWanted_74 : decode cX4_wayWanted 74 = .ok (.iaload, 1) := by decide +kernel
theorem dX4_wayWanted_75 : decode cX4_wayWanted 75 = .ok (.aload_n 0, 1) := by decide +kernel
theorem dX4_wayWanted_76 : decode cX4_wayWanted 76 = .ok (.getfield 24, 3) := by decide +kernel
theorem dX4_wayWanted_79 : decode cX4_wayWanted 79 = .ok (.iload_n 1, 1) := by decide +kernel
theorem dX4_wayWanted_80 : decode cX4_wayWanted 80 = .ok (.iaload, 1) := by decide +kernel
theorem dX4_wayWanted_81 : decode cX4_wayWanted 81 = .ok (.invokestatic 74, 3) := by decide +kernel
theorem dX4_wayWanted_84 : decode cX4_wayWanted 84 = .ok (.ireturn, 1) := by decide +kernel
theorem dX4_wayWanted_85 : decode cX4_wayWanted 85 = .ok (.aload_n 0, 1) := by decide +kernel
theorem dX4_wayWanted_86 : decode cX4_wayWanted 86 = .ok (.getfield 52, 3) := by decide +kernel
theorem dX4_wayWanted_89 : decode cX4_wayWanted 89 = .ok (.iconst 4, 1) := by decide +kernel
theorem dX4_wayWanted_90 : decode cX4_wayWanted 90 = .ok (.irem, 1) := by decide +kernel
theorem dX4_wayWanted_91 : decode cX4_wayWanted 91 = .ok (.ifCond .ne 10, 3) := by decide +kernel
theorem dX4_wayWanted_94 : decode cX4_wayWanted 94 = .ok (.aload_n 0, 1) := by decide +kernel
theorem dX4_wayWanted_95 : decode cX4_wayWanted 95 = .ok (.invokevirtual 70, 3) := by decide +kernel
theorem dX4_wayWanted_98 : decode cX4_wayWanted 98 = .ok (.goto 18, 3) := by decide +kernel
theorem dX4_wayWanted_101 : decode cX4_wayWanted 101 = .ok (.aload_n 0, 1) := by decide +kernel
theorem dX4_wayWanted_102 : decode cX4_wayWanted 102 = .ok (.getfield 27, 3) := by decide +kernel
theorem dX4_wayWanted_105 : decode cX4_wayWanted 105 = .ok (.iload_n 1, 1) := by decide +kernel
theorem dX4_wayWanted_106 : decode cX4_wayWanted 106 = .ok (.iaload, 1) := by decide +kernel
theorem dX4_wayWanted_107 : decode cX4_wayWanted 107 = .ok (.aload_n 0, 1) := by decide +kernel
theorem dX4_wayWanted_108 : decode cX4_wayWanted 108 = .ok (.getfield 24, 3) := by decide +kernel
theorem dX4_wayWanted_111 : decode cX4_wayWanted 111 = .ok (.iload_n 1, 1) := by decide +kernel
theorem dX4_wayWanted_112 : decode cX4_wayWanted 112 = .ok (.iaload, 1) := by decide +kernel
theorem dX4_wayWanted_113 : decode cX4_wayWanted 113 = .ok (.invokestatic 74, 3) := by decide +kernel
theorem dX4_wayWanted_116 : decode cX4_wayWanted 116 = .ok (.ireturn, 1) := by decide +kernel
theorem dX4_wayWanted_117 : decode cX4_wayWanted 117 = .ok (.iconst 4, 1) := by decide +kernel
theorem dX4_wayWanted_118 : decode cX4_wayWanted 118 = .ok (.ireturn, 1) := by decide +kernel
theorem dX4_wayWanted_119 : decode cX4_wayWanted 119 = .ok (.aload_n 0, 1) := by decide +kernel
theorem dX4_wayWanted_120 : decode cX4_wayWanted 120 = .ok (.getfield 55, 3) := by decide +kernel
theorem dX4_wayWanted_123 : decode cX4_wayWanted 123 = .ok (.ireturn, 1) := by decide +kernel
theorem dX4_wayOfFog_0 : decode cX4_wayOfFog 0 = .ok (.aload_n 0, 1) := by decide +kernel
theorem dX4_wayOfFog_1 : decode cX4_wayOfFog 1 = .ok (.getfield 52, 3) := by decide +kernel
theorem dX4_wayOfFog_4 : decode cX4_wayOfFog 4 = .ok (.iconst 2, 1) := by decide +kernel
theorem dX4_wayOfFog_5 : decode cX4_wayOfFog 5 = .ok (.irem, 1) := by decide +kernel
theorem dX4_wayOfFog_6 : decode cX4_wayOfFog 6 = .ok (.ifCond .ne 10, 3) := by decide +kernel
theorem dX4_wayOfFog_9 : decode cX4_wayOfFog 9 = .ok (.aload_n 0, 1) := by decide +kernel
theorem dX4_wayOfFog_10 : decode cX4_wayOfFog 10 = .ok (.getfield 55, 3) := by decide +kernel
theorem dX4_wayOfFog_13 : decode cX4_wayOfFog 13 = .ok (.goto 4, 3) := by decide +kernel
theorem dX4_wayOfFog_16 : decode cX4_wayOfFog 16 = .ok (.iconst 4, 1) := by decide +kernel
theorem dX4_wayOfFog_17 : decode cX4_wayOfFog 17 = .ok (.ireturn, 1) := by decide +kernel
theorem dX4_wets_0 : decode cX4_wets 0 = .ok (.aload_n 0, 1) := by decide +kernel
theorem dX4_wets_1 : decode cX4_wets 1 = .ok (.getfield 18, 3) := by decide +kernel
theorem dX4_wets_4 : decode cX4_wets 4 = .ok (.iload_n 1, 1) := by decide +kernel
theorem dX4_wets_5 : decode cX4_wets 5 = .ok (.iaload, 1) := by decide +kernel
theorem dX4_wets_6 : decode cX4_wets 6 = .ok (.tableswitch 101 1 5 #[34, 43, 45, 82, 93], 34) := by decide +kernel
theorem dX4_wets_40 : decode cX4_wets 40 = .ok (.iconst 1, 1) := by decide +kernel
theorem dX4_wets_41 : decode cX4_wets 41 = .ok (.aload_n 0, 1) := by decide +kernel
theorem dX4_wets_42 : decode cX4_wets 42 = .ok (.getfield 21, 3) := by decide +kernel
theorem dX4_wets_45 : decode cX4_wets 45 = .ok (.iload_n 1, 1) := by decide +kernel
theorem dX4_wets_46 : decode cX4_wets 46 = .ok (.iaload, 1) := by decide +kernel
theorem dX4_wets_47 : decode cX4_wets 47 = .ok (.iadd, 1) := by decide +kernel
theorem dX4_wets_48 : decode cX4_wets 48 = .ok (.ireturn, 1) := by decide +kernel
theorem dX4_wets_49 : decode cX4_wets 49 = .ok (.iconst 1, 1) := by decide +kernel
theorem dX4_wets_50 : decode cX4_wets 50 = .ok (.ireturn, 1) := by decide +kernel
theorem dX4_wets_51 : decode cX4_wets 51 = .ok (.aload_n 0, 1) := by decide +kernel
theorem dX4_wets_52 : decode cX4_wets 52 = .ok (.getfield 27, 3) := by decide +kernel
theorem dX4_wets_55 : decode cX4_wets 55 = .ok (.iload_n 1, 1) := by decide +kernel
theorem dX4_wets_56 : decode cX4_wets 56 = .ok (.iaload, 1) := by decide +kernel
theorem dX4_wets_57 : decode cX4_wets 57 = .ok (.aload_n 0, 1) := by decide +kernel
theorem dX4_wets_58 : decode cX4_wets 58 = .ok (.getfield 24, 3) := by decide +kernel
theorem dX4_wets_61 : decode cX4_wets 61 = .ok (.iload_n 1, 1) := by decide +kernel
theorem dX4_wets_62 : decode cX4_wets 62 = .ok (.iaload, 1) := by decide +kernel
theorem dX4_wets_63 : decode cX4_wets 63 = .ok (.if_icmp .ne 16, 3) := by decide +kernel
theorem dX4_wets_66 : decode cX4_wets 66 = .ok (.iconst 2, 1) := by decide +kernel
theorem dX4_wets_67 : decode cX4_wets 67 = .ok (.iconst 1, 1) := by decide +kernel
theorem dX4_wets_68 : decode cX4_wets 68 = .ok (.aload_n 0, 1) := by decide +kernel
theorem dX4_wets_69 : decode cX4_wets 69 = .ok (.getfield 21, 3) := by decide +kernel
theorem dX4_wets_72 : decode cX4_wets 72 = .ok (.iload_n 1, 1) := by decide +kernel
theorem dX4_wets_73 : decode cX4_wets 73 = .ok (.iaload, 1) := by decide +kernel
theorem dX4_wets_74 : decode cX4_wets 74 = .ok (.iadd, 1) := by decide +kernel
theorem dX4_wets_75 : decode cX4_wets 75 = .ok (.imul, 1) := by decide +kernel
theorem dX4_wets_76 : decode cX4_wets 76 = .ok (.goto 11, 3) := by decide +kernel
theorem dX4_wets_79 : decode cX4_wets 79 = .ok (.iconst 1, 1) := by decide +kernel
theorem dX4_wets_80 : decode cX4_wets 80 = .ok (.aload_n 0, 1) := by decide +kernel
theorem dX4_wets_81 : decode cX4_wets 81 = .ok (.getfield 21, 3) := by decide +kernel
theorem dX4_wets_84 : decode cX4_wets 84 = .ok (.iload_n 1, 1) := by decide +kernel
theorem dX4_wets_85 : decode cX4_wets 85 = .ok (.iaload, 1) := by decide +kernel
theorem dX4_wets_86 : decode cX4_wets 86 = .ok (.iadd, 1) := by decide +kernel
theorem dX4_wets_87 : decode cX4_wets 87 = .ok (.ireturn, 1) := by decide +kernel
theorem dX4_wets_88 : decode cX4_wets 88 = .ok (.iconst 1, 1) := by decide +kernel
theorem dX4_wets_89 : decode cX4_wets 89 = .ok (.aload_n 0, 1) := by decide +kernel
theorem dX4_wets_90 : decode cX4_wets 90 = .ok (.getfield 21, 3) := by decide +kernel
theorem dX4_wets_93 : decode cX4_wets 93 = .ok (.iload_n 1, 1) := by decide +kernel
theorem dX4_wets_94 : decode cX4_wets 94 = .ok (.iaload, 1) := by decide +kernel
theorem dX4_wets_95 : decode cX4_wets 95 = .ok (.iconst 3, 1) := by decide +kernel
theorem dX4_wets_96 : decode cX4_wets 96 = .ok (.idiv, 1) := by decide +kernel
theorem dX4_wets_97 : decode cX4_wets 97 = .ok (.iadd, 1) := by decide +kernel
theorem dX4_wets_98 : decode cX4_wets 98 = .ok (.ireturn, 1) := by decide +kernel
theorem dX4_wets_99 : decode cX4_wets 99 = .ok (.aload_n 0, 1) := by decide +kernel
theorem dX4_wets_100 : decode cX4_wets 100 = .ok (.getfield 21, 3) := by decide +kernel
theorem dX4_wets_103 : decode cX4_wets 103 = .ok (.iload_n 1, 1) := by decide +kernel
theorem dX4_wets_104 : decode cX4_wets 104 = .ok (.iaload, 1) := by decide +kernel
theorem dX4_wets_105 : decode cX4_wets 105 = .ok (.ineg, 1) := by decide +kernel
theorem dX4_wets_106 : decode cX4_wets 106 = .ok (.ireturn, 1) := by decide +kernel
theorem dX4_wets_107 : decode cX4_wets 107 = .ok (.iconst 0, 1) := by decide +kernel
theorem dX4_wets_108 : decode cX4_wets 108 = .ok (.ireturn, 1) := by decide +kernel
theorem dX4_takeStep_0 : decode cX4_takeStep 0 = .ok (.aload_n 0, 1) := by decide +kernel
theorem dX4_takeStep_1 : decode cX4_takeStep 1 = .ok (.invokevirtual 77, 3) := by decide +kernel
theorem dX4_takeStep_4 : decode cX4_takeStep 4 = .ok (.iconst 0, 1) := by decide +kernel
theorem dX4_takeStep_5 : decode cX4_takeStep 5 = .ok (.istore_n 1, 1) := by decide +kernel
theorem dX4_takeStep_6 : decode cX4_takeStep 6 = .ok (.iload_n 1, 1) := by decide +kernel
theorem dX4_takeStep_7 : decode cX4_takeStep 7 = .ok (.aload_n 0, 1) := by decide +kernel
theorem dX4_takeStep_8 : decode cX4_takeStep 8 = .ok (.getfield 49, 3) := by decide +kernel
theorem dX4_takeStep_11 : decode cX4_takeStep 11 = .ok (.if_icmp .ge 29, 3) := by decide +kernel
theorem dX4_takeStep_14 : decode cX4_takeStep 14 = .ok (.aload_n 0, 1) := by decide +kernel
theorem dX4_takeStep_15 : decode cX4_takeStep 15 = .ok (.getfield 27, 3) := by decide +kernel
theorem dX4_takeStep_18 : decode cX4_takeStep 18 = .ok (.iload_n 1, 1) := by decide +kernel
theorem dX4_takeStep_19 : decode cX4_takeStep 19 = .ok (.aload_n 0, 1) := by decide +kernel
theorem dX4_takeStep_20 : decode cX4_takeStep 20 = .ok (.getfield 27, 3) := by decide +kernel
theorem dX4_takeStep_23 : decode cX4_takeStep 23 = .ok (.iload_n 1, 1) := by decide +kernel
theorem dX4_takeStep_24 : decode cX4_takeStep 24 = .ok (.iaload, 1) := by decide +kernel
theorem dX4_takeStep_25 : decode cX4_takeStep 25 = .ok (.aload_n 0, 1) := by decide +kernel
theorem dX4_takeStep_26 : decode cX4_takeStep 26 = .ok (.iload_n 1, 1) := by decide +kernel
theorem dX4_takeStep_27 : decode cX4_takeStep 27 = .ok (.invokevirtual 80, 3) := by decide +kernel
theorem dX4_takeStep_30 : decode cX4_takeStep 30 = .ok (.invokestatic 66, 3) := by decide +kernel
theorem dX4_takeStep_33 : decode cX4_takeStep 33 = .ok (.iastore, 1) := by decide +kernel
theorem dX4_takeStep_34 : decode cX4_takeStep 34 = .ok (.iinc 1 1, 3) := by decide +kernel
theorem dX4_takeStep_37 : decode cX4_takeStep 37 = .ok (.goto (-31), 3) := by decide +kernel
theorem dX4_takeStep_40 : decode cX4_takeStep 40 = .ok (.iconst 0, 1) := by decide +kernel
theorem dX4_takeStep_41 : decode cX4_takeStep 41 = .ok (.istore_n 1, 1) := by decide +kernel
theorem dX4_takeStep_42 : decode cX4_takeStep 42 = .ok (.iload_n 1, 1) := by decide +kernel
theorem dX4_takeStep_43 : decode cX4_takeStep 43 = .ok (.aload_n 0, 1) := by decide +kernel
theorem dX4_takeStep_44 : decode cX4_takeStep 44 = .ok (.getfield 49, 3) := by decide +kernel
theorem dX4_takeStep_47 : decode cX4_takeStep 47 = .ok (.if_icmp .ge 42, 3) := by decide +kernel
theorem dX4_takeStep_50 : decode cX4_takeStep 50 = .ok (.aload_n 0, 1) := by decide +kernel
theorem dX4_takeStep_51 : decode cX4_takeStep 51 = .ok (.getfield 15, 3) := by decide +kernel
theorem dX4_takeStep_54 : decode cX4_takeStep 54 = .ok (.aload_n 0, 1) := by decide +kernel
theorem dX4_takeStep_55 : decode cX4_takeStep 55 = .ok (.getfield 27, 3) := by decide +kernel
theorem dX4_takeStep_58 : decode cX4_takeStep 58 = .ok (.iload_n 1, 1) := by decide +kernel
theorem dX4_takeStep_59 : decode cX4_takeStep 59 = .ok (.iaload, 1) := by decide +kernel
theorem dX4_takeStep_60 : decode cX4_takeStep 60 = .ok (.aload_n 0, 1) := by decide +kernel
theorem dX4_takeStep_61 : decode cX4_takeStep 61 = .ok (.getfield 15, 3) := by decide +kernel
theorem dX4_takeStep_64 : decode cX4_takeStep 64 = .ok (.aload_n 0, 1) := by decide +kernel
theorem dX4_takeStep_65 : decode cX4_takeStep 65 = .ok (.getfield 27, 3) := by decide +kernel
theorem dX4_takeStep_68 : decode cX4_takeStep 68 = .ok (.iload_n 1, 1) := by decide +kernel
theorem dX4_takeStep_69 : decode cX4_takeStep 69 = .ok (.iaload, 1) := by decide +kernel
theorem dX4_takeStep_70 : decode cX4_takeStep 70 = .ok (.iaload, 1) := by decide +kernel
theorem dX4_takeStep_71 : decode cX4_takeStep 71 = .ok (.aload_n 0, 1) := by decide +kernel
theorem dX4_takeStep_72 : decode cX4_takeStep 72 = .ok (.iload_n 1, 1) := by decide +kernel
theorem dX4_takeStep_73 : decode cX4_takeStep 73 = .ok (.invokevirtual 83, 3) := by decide +kernel
theorem dX4_takeStep_76 : decode cX4_takeStep 76 = .ok (.iadd, 1) := by decide +kernel
theorem dX4_takeStep_77 : decode cX4_takeStep 77 = .ok (.bipush 99, 2) := by decide +kernel
theorem dX4_takeStep_79 : decode cX4_takeStep 79 = .ok (.invokestatic 86, 3) := by decide +kernel
theorem dX4_takeStep_82 : decode cX4_takeStep 82 = .ok (.iastore, 1) := by decide +kernel
theorem dX4_takeStep_83 : decode cX4_takeStep 83 = .ok (.iinc 1 1, 3) := by decide +kernel
theorem dX4_takeStep_86 : decode cX4_takeStep 86 = .ok (.goto (-44), 3) := by decide +kernel
theorem dX4_takeStep_89 : decode cX4_takeStep 89 = .ok (.aload_n 0, 1) := by decide +kernel
theorem dX4_takeStep_90 : decode cX4_takeStep 90 = .ok (.dup, 1) := by decide +kernel
theorem dX4_takeStep_91 : decode cX4_takeStep 91 = .ok (.getfield 52, 3) := by decide +kernel
theorem dX4_takeStep_94 : decode cX4_takeStep 94 = .ok (.iconst 1, 1) := by decide +kernel
theorem dX4_takeStep_95 : decode cX4_takeStep 95 = .ok (.iadd, 1) := by decide +kernel
theorem dX4_takeStep_96 : decode cX4_takeStep 96 = .ok (.putfield 52, 3) := by decide +kernel
theorem dX4_takeStep_99 : decode cX4_takeStep 99 = .ok (.return_, 1) := by decide +kernel
theorem dX4_takeStepByDraws_0 : decode cX4_takeStepByDraws 0 = .ok (.aload_n 0, 1) := by decide +kernel
theorem dX4_takeStepByDraws_1 : decode cX4_takeStepByDraws 1 = .ok (.invokevirtual 89, 3) := by decide +kernel
theorem dX4_takeStepByDraws_4 : decode cX4_takeStepByDraws 4 = .ok (.bipush 100, 2) := by decide +kernel
theorem dX4_takeStepByDraws_6 : decode cX4_takeStepByDraws 6 = .ok (.irem, 1) := by decide +kernel
theorem dX4_takeStepByDraws_7 : decode cX4_takeStepByDraws 7 = .ok (.aload_n 0, 1) := by decide +kernel
theorem dX4_takeStepByDraws_8 : decode cX4_takeStepByDraws 8 = .ok (.getfield 9, 3) := by decide +kernel
theorem dX4_takeStepByDraws_11 : decode cX4_takeStepByDraws 11 = .ok (.iconst 3, 1) := by decide +kernel
theorem dX4_takeStepByDraws_12 : decode cX4_takeStepByDraws 12 = .ok (.iaload, 1) := by decide +kernel
theorem dX4_takeStepByDraws_13 : decode cX4_takeStepByDraws 13 = .ok (.if_icmp .ge 13, 3) := by decide +kernel
theorem dX4_takeStepByDraws_16 : decode cX4_takeStepByDraws 16 = .ok (.aload_n 0, 1) := by decide +kernel
theorem dX4_takeStepByDraws_17 : decode cX4_takeStepByDraws 17 = .ok (.aload_n 0, 1) := by decide +kernel
theorem dX4_takeStepByDraws_18 : decode cX4_takeStepByDraws 18 = .ok (.invokevirtual 89, 3) := by decide +kernel
theorem dX4_takeStepByDraws_21 : decode cX4_takeStepByDraws 21 = .ok (.iconst 4, 1) := by decide +kernel
theorem dX4_takeStepByDraws_22 : decode cX4_takeStepByDraws 22 = .ok (.irem, 1) := by decide +kernel
theorem dX4_takeStepByDraws_23 : decode cX4_takeStepByDraws 23 = .ok (.putfield 55, 3) := by decide +kernel
theorem dX4_takeStepByDraws_26 : decode cX4_takeStepByDraws 26 = .ok (.aload_n 0, 1) := by decide +kernel
theorem dX4_takeStepByDraws_27 : decode cX4_takeStepByDraws 27 = .ok (.invokevirtual 92, 3) := by decide +kernel
theorem dX4_takeStepByDraws_30 : decode cX4_takeStepByDraws 30 = .ok (.return_, 1) := by decide +kernel
theorem dX4_turnWind_0 : decode cX4_turnWind 0 = .ok (.aload_n 0, 1) := by decide +kernel
theorem dX4_turnWind_1 : decode cX4_turnWind 1 = .ok (.getfield 52, 3) := by decide +kernel
theorem dX4_turnWind_4 : decode cX4_turnWind 4 = .ok (.ifCond .le 38, 3) := by decide +kernel
theorem dX4_turnWind_7 : decode cX4_turnWind 7 = .ok (.aload_n 0, 1) := by decide +kernel
theorem dX4_turnWind_8 : decode cX4_turnWind 8 = .ok (.getfield 9, 3) := by decide +kernel
theorem dX4_turnWind_11 : decode cX4_turnWind 11 = .ok (.iconst 0, 1) := by decide +kernel
theorem dX4_turnWind_12 : decode cX4_turnWind 12 = .ok (.iaload, 1) := by decide +kernel
theorem dX4_turnWind_13 : decode cX4_turnWind 13 = .ok (.ifCond .le 29, 3) := by decide +kernel
theorem dX4_turnWind_16 : decode cX4_turnWind 16 = .ok (.aload_n 0, 1) := by decide +kernel
theorem dX4_turnWind_17 : decode cX4_turnWind 17 = .ok (.getfield 52, 3) := by decide +kernel
theorem dX4_turnWind_20 : decode cX4_turnWind 20 = .ok (.aload_n 0, 1) := by decide +kernel
theorem dX4_turnWind_21 : decode cX4_turnWind 21 = .ok (.getfield 9, 3) := by decide +kernel
theorem dX4_turnWind_24 : decode cX4_turnWind 24 = .ok (.iconst 0, 1) := by decide +kernel
theorem dX4_turnWind_25 : decode cX4_turnWind 25 = .ok (.iaload, 1) := by decide +kernel
theorem dX4_turnWind_26 : decode cX4_turnWind 26 = .ok (.irem, 1) := by decide +kernel
theorem dX4_turnWind_27 : decode cX4_turnWind 27 = .ok (.ifCond .ne 15, 3) := by decide +kernel
theorem dX4_turnWind_30 : decode cX4_turnWind 30 = .ok (.aload_n 0, 1) := by decide +kernel
theorem dX4_turnWind_31 : decode cX4_turnWind 31 = .ok (.aload_n 0, 1) := by decide +kernel
theorem dX4_turnWind_32 : decode cX4_turnWind 32 = .ok (.getfield 55, 3) := by decide +kernel
theorem dX4_turnWind_35 : decode cX4_turnWind 35 = .ok (.iconst 1, 1) := by decide +kernel
theorem dX4_turnWind_36 : decode cX4_turnWind 36 = .ok (.iadd, 1) := by decide +kernel
theorem dX4_turnWind_37 : decode cX4_turnWind 37 = .ok (.iconst 4, 1) := by decide +kernel
theorem dX4_turnWind_38 : decode cX4_turnWind 38 = .ok (.irem, 1) := by decide +kernel
theorem dX4_turnWind_39 : decode cX4_turnWind 39 = .ok (.putfield 55, 3) := by decide +kernel
theorem dX4_turnWind_42 : decode cX4_turnWind 42 = .ok (.return_, 1) := by decide +kernel
theorem dX4_draw_0 : decode cX4_draw 0 = .ok (.aload_n 0, 1) := by decide +kernel
theorem dX4_draw_1 : decode cX4_draw 1 = .ok (.aload_n 0, 1) := by decide +kernel
theorem dX4_draw_2 : decode cX4_draw 2 = .ok (.getfield 30, 3) := by decide +kernel
theorem dX4_draw_5 : decode cX4_draw 5 = .ok (.ldc 95, 2) := by decide +kernel
theorem dX4_draw_7 : decode cX4_draw 7 = .ok (.imul, 1) := by decide +kernel
theorem dX4_draw_8 : decode cX4_draw 8 = .ok (.sipush 12345, 3) := by decide +kernel
theorem dX4_draw_11 : decode cX4_draw 11 = .ok (.iadd, 1) := by decide +kernel
theorem dX4_draw_12 : decode cX4_draw 12 = .ok (.putfield 30, 3) := by decide +kernel
theorem dX4_draw_15 : decode cX4_draw 15 = .ok (.aload_n 0, 1) := by decide +kernel
theorem dX4_draw_16 : decode cX4_draw 16 = .ok (.getfield 30, 3) := by decide +kernel
theorem dX4_draw_19 : decode cX4_draw 19 = .ok (.bipush 16, 2) := by decide +kernel
theorem dX4_draw_21 : decode cX4_draw 21 = .ok (.iushr, 1) := by decide +kernel
theorem dX4_draw_22 : decode cX4_draw 22 = .ok (.ireturn, 1) := by decide +kernel
theorem dX4_walk_0 : decode cX4_walk 0 = .ok (.aload_n 3, 1) := by decide +kernel
theorem dX4_walk_1 : decode cX4_walk 1 = .ok (.iconst 0, 1) := by decide +kernel
theorem dX4_walk_2 : decode cX4_walk 2 = .ok (.aload_n 0, 1) := by decide +kernel
theorem dX4_walk_3 : decode cX4_walk 3 = .ok (.getfield 27, 3) := by decide +kernel
theorem dX4_walk_6 : decode cX4_walk 6 = .ok (.iload_n 1, 1) := by decide +kernel
theorem dX4_walk_7 : decode cX4_walk 7 = .ok (.iaload, 1) := by decide +kernel
theorem dX4_walk_8 : decode cX4_walk 8 = .ok (.iastore, 1) := by decide +kernel
theorem dX4_walk_9 : decode cX4_walk 9 = .ok (.iconst 1, 1) := by decide +kernel
theorem dX4_walk_10 : decode cX4_walk 10 = .ok (.istore 4, 2) := by decide +kernel
theorem dX4_walk_12 : decode cX4_walk 12 = .ok (.iload 4, 2) := by decide +kernel
theorem dX4_walk_14 : decode cX4_walk 14 = .ok (.iload_n 2, 1) := by decide +kernel
theorem dX4_walk_15 : decode cX4_walk 15 = .ok (.if_icmp .gt 60, 3) := by decide +kernel
theorem dX4_walk_18 : decode cX4_walk 18 = .ok (.iload 4, 2) := by decide +kernel
theorem dX4_walk_20 : decode cX4_walk 20 = .ok (.aload_n 3, 1) := by decide +kernel
theorem dX4_walk_21 : decode cX4_walk 21 = .ok (.arraylength, 1) := by decide +kernel
theorem dX4_walk_22 : decode cX4_walk 22 = .ok (.if_icmp .ge 53, 3) := by decide +kernel
theorem dX4_walk_25 : decode cX4_walk 25 = .ok (.aload_n 0, 1) := by decide +kernel
theorem dX4_walk_26 : decode cX4_walk 26 = .ok (.invokevirtual 77, 3) := by decide +kernel
theorem dX4_walk_29 : decode cX4_walk 29 = .ok (.aload_n 0, 1) := by decide +kernel
theorem dX4_walk_30 : decode cX4_walk 30 = .ok (.getfield 27, 3) := by decide +kernel
theorem dX4_walk_33 : decode cX4_walk 33 = .ok (.iload_n 1, 1) := by decide +kernel
theorem dX4_walk_34 : decode cX4_walk 34 = .ok (.aload_n 0, 1) := by decide +kernel
theorem dX4_walk_35 : decode cX4_walk 35 = .ok (.getfield 27, 3) := by decide +kernel
theorem dX4_walk_38 : decode cX4_walk 38 = .ok (.iload_n 1, 1) := by decide +kernel
theorem dX4_walk_39 : decode cX4_walk 39 = .ok (.iaload, 1) := by decide +kernel
theorem dX4_walk_40 : decode cX4_walk 40 = .ok (.aload_n 0, 1) := by decide +kernel
theorem dX4_walk_41 : decode cX4_walk 41 = .ok (.iload_n 1, 1) := by decide +kernel
theorem dX4_walk_42 : decode cX4_walk 42 = .ok (.invokevirtual 80, 3) := by decide +kernel
theorem dX4_walk_45 : decode cX4_walk 45 = .ok (.invokestatic 66, 3) := by decide +kernel
theorem dX4_walk_48 : decode cX4_walk 48 = .ok (.iastore, 1) := by decide +kernel
theorem dX4_walk_49 : decode cX4_walk 49 = .ok (.aload_n 0, 1) := by decide +kernel
theorem dX4_walk_50 : decode cX4_walk 50 = .ok (.dup, 1) := by decide +kernel
theorem dX4_walk_51 : decode cX4_walk 51 = .ok (.getfield 52, 3) := by decide +kernel
theorem dX4_walk_54 : decode cX4_walk 54 = .ok (.iconst 1, 1) := by decide +kernel
theorem dX4_walk_55 : decode cX4_walk 55 = .ok (.iadd, 1) := by decide +kernel
theorem dX4_walk_56 : decode cX4_walk 56 = .ok (.putfield 52, 3) := by decide +kernel
theorem dX4_walk_59 : decode cX4_walk 59 = .ok (.aload_n 3, 1) := by decide +kernel
theorem dX4_walk_60 : decode cX4_walk 60 = .ok (.iload 4, 2) := by decide +kernel
theorem dX4_walk_62 : decode cX4_walk 62 = .ok (.aload_n 0, 1) := by decide +kernel
theorem dX4_walk_63 : decode cX4_walk 63 = .ok (.getfield 27, 3) := by decide +kernel
theorem dX4_walk_66 : decode cX4_walk 66 = .ok (.iload_n 1, 1) := by decide +kernel
theorem dX4_walk_67 : decode cX4_walk 67 = .ok (.iaload, 1) := by decide +kernel
theorem dX4_walk_68 : decode cX4_walk 68 = .ok (.iastore, 1) := by decide +kernel
theorem dX4_walk_69 : decode cX4_walk 69 = .ok (.iinc 4 1, 3) := by decide +kernel
theorem dX4_walk_72 : decode cX4_walk 72 = .ok (.goto (-60), 3) := by decide +kernel
theorem dX4_walk_75 : decode cX4_walk 75 = .ok (.return_, 1) := by decide +kernel
theorem dX4_rowPart_0 : decode cX4_rowPart 0 = .ok (.iload_n 2, 1) := by decide +kernel
theorem dX4_rowPart_1 : decode cX4_rowPart 1 = .ok (.lookupswitch 46 #[(0, 27), (1, 34)], 27) := by decide +kernel
theorem dX4_rowPart_28 : decode cX4_rowPart 28 = .ok (.aload_n 0, 1) := by decide +kernel
theorem dX4_rowPart_29 : decode cX4_rowPart 29 = .ok (.getfield 27, 3) := by decide +kernel
theorem dX4_rowPart_32 : decode cX4_rowPart 32 = .ok (.iload_n 1, 1) := by decide +kernel
theorem dX4_rowPart_33 : decode cX4_rowPart 33 = .ok (.iaload, 1) := by decide +kernel
theorem dX4_rowPart_34 : decode cX4_rowPart 34 = .ok (.ireturn, 1) := by decide +kernel
theorem dX4_rowPart_35 : decode cX4_rowPart 35 = .ok (.aload_n 0, 1) := by decide +kernel
theorem dX4_rowPart_36 : decode cX4_rowPart 36 = .ok (.getfield 15, 3) := by decide +kernel
theorem dX4_rowPart_39 : decode cX4_rowPart 39 = .ok (.aload_n 0, 1) := by decide +kernel
theorem dX4_rowPart_40 : decode cX4_rowPart 40 = .ok (.getfield 27, 3) := by decide +kernel
theorem dX4_rowPart_43 : decode cX4_rowPart 43 = .ok (.iload_n 1, 1) := by decide +kernel
theorem dX4_rowPart_44 : decode cX4_rowPart 44 = .ok (.iaload, 1) := by decide +kernel
theorem dX4_rowPart_45 : decode cX4_rowPart 45 = .ok (.iaload, 1) := by decide +kernel
theorem dX4_rowPart_46 : decode cX4_rowPart 46 = .ok (.ireturn, 1) := by decide +kernel
theorem dX4_rowPart_47 : decode cX4_rowPart 47 = .ok (.aload_n 0, 1) := by decide +kernel
theorem dX4_rowPart_48 : decode cX4_rowPart 48 = .ok (.getfield 27, 3) := by decide +kernel
theorem dX4_rowPart_51 : decode cX4_rowPart 51 = .ok (.iload_n 1, 1) := by decide +kernel
theorem dX4_rowPart_52 : decode cX4_rowPart 52 = .ok (.iaload, 1) := by decide +kernel
theorem dX4_rowPart_53 : decode cX4_rowPart 53 = .ok (.aload_n 0, 1) := by decide +kernel
theorem dX4_rowPart_54 : decode cX4_rowPart 54 = .ok (.getfield 24, 3) := by decide +kernel
theorem dX4_rowPart_57 : decode cX4_rowPart 57 = .ok (.iload_n 1, 1) := by decide +kernel
theorem dX4_rowPart_58 : decode cX4_rowPart 58 = .ok (.iaload, 1) := by decide +kernel
theorem dX4_rowPart_59 : decode cX4_rowPart 59 = .ok (.invokestatic 96, 3) := by decide +kernel
theorem dX4_rowPart_62 : decode cX4_rowPart 62 = .ok (.ireturn, 1) := by decide +kernel
theorem dX4_standsOtherwise_0 : decode cX4_standsOtherwise 0 = .ok (.iconst 0, 1) := by decide +kernel
theorem dX4_standsOtherwise_1 : decode cX4_standsOtherwise 1 = .ok (.istore_n 2, 1) := by decide +kernel
theorem dX4_standsOtherwise_2 : decode cX4_standsOtherwise 2 = .ok (.iload_n 2, 1) := by decide +kernel
theorem dX4_standsOtherwise_3 : decode cX4_standsOtherwise 3 = .ok (.aload_n 0, 1) := by decide +kernel
theorem dX4_standsOtherwise_4 : decode cX4_standsOtherwise 4 = .ok (.getfield 49, 3) := by decide +kernel
theorem dX4_standsOtherwise_7 : decode cX4_standsOtherwise 7 = .ok (.if_icmp .ge 29, 3) := by decide +kernel
theorem dX4_standsOtherwise_10 : decode cX4_standsOtherwise 10 = .ok (.iload_n 2, 1) := by decide +kernel
theorem dX4_standsOtherwise_11 : decode cX4_standsOtherwise 11 = .ok (.aload_n 1, 1) := by decide +kernel
theorem dX4_standsOtherwise_12 : decode cX4_standsOtherwise 12 = .ok (.arraylength, 1) := by decide +kernel
theorem dX4_standsOtherwise_13 : decode cX4_standsOtherwise 13 = .ok (.if_icmp .ge 23, 3) := by decide +kernel
theorem dX4_standsOtherwise_16 : decode cX4_standsOtherwise 16 = .ok (.aload_n 0, 1) := by decide +kernel
theorem dX4_standsOtherwise_17 : decode cX4_standsOtherwise 17 = .ok (.getfield 27, 3) := by decide +kernel
theorem dX4_standsOtherwise_20 : decode cX4_standsOtherwise 20 = .ok (.iload_n 2, 1) := by decide +kernel
theorem dX4_standsOtherwise_21 : decode cX4_standsOtherwise 21 = .ok (.iaload, 1) := by decide +kernel
theorem dX4_standsOtherwise_22 : decode cX4_standsOtherwise 22 = .ok (.aload_n 1, 1) := by decide +kernel
theorem dX4_standsOtherwise_23 : decode cX4_standsOtherwise 23 = .ok (.iload_n 2, 1) := by decide +kernel
theorem dX4_standsOtherwise_24 : decode cX4_standsOtherwise 24 = .ok (.iaload, 1) := by decide +kernel
theorem dX4_standsOtherwise_25 : decode cX4_standsOtherwise 25 = .ok (.if_icmp .eq 5, 3) := by decide +kernel
theorem dX4_standsOtherwise_28 : decode cX4_standsOtherwise 28 = .ok (.iconst 1, 1) := by decide +kernel
theorem dX4_standsOtherwise_29 : decode cX4_standsOtherwise 29 = .ok (.ireturn, 1) := by decide +kernel
theorem dX4_standsOtherwise_30 : decode cX4_standsOtherwise 30 = .ok (.iinc 2 1, 3) := by decide +kernel
theorem dX4_standsOtherwise_33 : decode cX4_standsOtherwise 33 = .ok (.goto (-31), 3) := by decide +kernel
theorem dX4_standsOtherwise_36 : decode cX4_standsOtherwise 36 = .ok (.iconst 0, 1) := by decide +kernel
theorem dX4_standsOtherwise_37 : decode cX4_standsOtherwise 37 = .ok (.ireturn, 1) := by decide +kernel
theorem dX4_airsAt_0 : decode cX4_airsAt 0 = .ok (.iconst 0, 1) := by decide +kernel
theorem dX4_airsAt_1 : decode cX4_airsAt 1 = .ok (.istore_n 2, 1) := by decide +kernel
theorem dX4_airsAt_2 : decode cX4_airsAt 2 = .ok (.iconst 0, 1) := by decide +kernel
theorem dX4_airsAt_3 : decode cX4_airsAt 3 = .ok (.istore_n 3, 1) := by decide +kernel
theorem dX4_airsAt_4 : decode cX4_airsAt 4 = .ok (.iload_n 3, 1) := by decide +kernel
theorem dX4_airsAt_5 : decode cX4_airsAt 5 = .ok (.aload_n 0, 1) := by decide +kernel
theorem dX4_airsAt_6 : decode cX4_airsAt 6 = .ok (.getfield 49, 3) := by decide +kernel
theorem dX4_airsAt_9 : decode cX4_airsAt 9 = .ok (.if_icmp .ge 29, 3) := by decide +kernel
theorem dX4_airsAt_12 : decode cX4_airsAt 12 = .ok (.iload_n 2, 1) := by decide +kernel
theorem dX4_airsAt_13 : decode cX4_airsAt 13 = .ok (.aload_n 0, 1) := by decide +kernel
theorem dX4_airsAt_14 : decode cX4_airsAt 14 = .ok (.getfield 27, 3) := by decide +kernel
theorem dX4_airsAt_17 : decode cX4_airsAt 17 = .ok (.iload_n 3, 1) := by decide +kernel
theorem dX4_airsAt_18 : decode cX4_airsAt 18 = .ok (.iaload, 1) := by decide +kernel
theorem dX4_airsAt_19 : decode cX4_airsAt 19 = .ok (.iload_n 1, 1) := by decide +kernel
theorem dX4_airsAt_20 : decode cX4_airsAt 20 = .ok (.if_icmp .ne 9, 3) := by decide +kernel
theorem dX4_airsAt_23 : decode cX4_airsAt 23 = .ok (.iconst 1, 1) := by decide +kernel
theorem dX4_airsAt_24 : decode cX4_airsAt 24 = .ok (.iload_n 3, 1) := by decide +kernel
theorem dX4_airsAt_25 : decode cX4_airsAt 25 = .ok (.ishl, 1) := by decide +kernel
theorem dX4_airsAt_26 : decode cX4_airsAt 26 = .ok (.goto 4, 3) := by decide +kernel
theorem dX4_airsAt_29 : decode cX4_airsAt 29 = .ok (.iconst 0, 1) := by decide +kernel
theorem dX4_airsAt_30 : decode cX4_airsAt 30 = .ok (.ior, 1) := by decide +kernel
theorem dX4_airsAt_31 : decode cX4_airsAt 31 = .ok (.istore_n 2, 1) := by decide +kernel
theorem dX4_airsAt_32 : decode cX4_airsAt 32 = .ok (.iinc 3 1, 3) := by decide +kernel
theorem dX4_airsAt_35 : decode cX4_airsAt 35 = .ok (.goto (-31), 3) := by decide +kernel
theorem dX4_airsAt_38 : decode cX4_airsAt 38 = .ok (.iload_n 2, 1) := by decide +kernel
theorem dX4_airsAt_39 : decode cX4_airsAt 39 = .ok (.ireturn, 1) := by decide +kernel
theorem dX4_airsAtErrands_0 : decode cX4_airsAtErrands 0 = .ok (.iconst 0, 1) := by decide +kernel
theorem dX4_airsAtErrands_1 : decode cX4_airsAtErrands 1 = .ok (.istore_n 1, 1) := by decide +kernel
theorem dX4_airsAtErrands_2 : decode cX4_airsAtErrands 2 = .ok (.iconst 0, 1) := by decide +kernel
theorem dX4_airsAtErrands_3 : decode cX4_airsAtErrands 3 = .ok (.istore_n 2, 1) := by decide +kernel
theorem dX4_airsAtErrands_4 : decode cX4_airsAtErrands 4 = .ok (.iload_n 2, 1) := by decide +kernel
theorem dX4_airsAtErrands_5 : decode cX4_airsAtErrands 5 = .ok (.aload_n 0, 1) := by decide +kernel
theorem dX4_airsAtErrands_6 : decode cX4_airsAtErrands 6 = .ok (.getfield 49, 3) := by decide +kernel
theorem dX4_airsAtErrands_9 : decode cX4_airsAtErrands 9 = .ok (.if_icmp .ge 34, 3) := by decide +kernel
theorem dX4_airsAtErrands_12 : decode cX4_airsAtErrands 12 = .ok (.iload_n 1, 1) := by decide +kernel
theorem dX4_airsAtErrands_13 : decode cX4_airsAtErrands 13 = .ok (.aload_n 0, 1) := by decide +kernel
theorem dX4_airsAtErrands_14 : decode cX4_airsAtErrands 14 = .ok (.getfield 27, 3) := by decide +kernel
theorem dX4_airsAtErrands_17 : decode cX4_airsAtErrands 17 = .ok (.iload_n 2, 1) := by decide +kernel
theorem dX4_airsAtErrands_18 : decode cX4_airsAtErrands 18 = .ok (.iaload, 1) := by decide +kernel
theorem dX4_airsAtErrands_19 : decode cX4_airsAtErrands 19 = .ok (.aload_n 0, 1) := by decide +kernel
theorem dX4_airsAtErrands_20 : decode cX4_airsAtErrands 20 = .ok (.getfield 24, 3) := by decide +kernel
theorem dX4_airsAtErrands_23 : decode cX4_airsAtErrands 23 = .ok (.iload_n 2, 1) := by decide +kernel
theorem dX4_airsAtErrands_24 : decode cX4_airsAtErrands 24 = .ok (.iaload, 1) := by decide +kernel
theorem dX4_airsAtErrands_25 : decode cX4_airsAtErrands 25 = .ok (.if_icmp .ne 9, 3) := by decide +kernel
theorem dX4_airsAtErrands_28 : decode cX4_airsAtErrands 28 = .ok (.iconst 1, 1) := by decide +kernel
theorem dX4_airsAtErrands_29 : decode cX4_airsAtErrands 29 = .ok (.iload_n 2, 1) := by decide +kernel
theorem dX4_airsAtErrands_30 : decode cX4_airsAtErrands 30 = .ok (.ishl, 1) := by decide +kernel
theorem dX4_airsAtErrands_31 : decode cX4_airsAtErrands 31 = .ok (.goto 4, 3) := by decide +kernel
theorem dX4_airsAtErrands_34 : decode cX4_airsAtErrands 34 = .ok (.iconst 0, 1) := by decide +kernel
theorem dX4_airsAtErrands_35 : decode cX4_airsAtErrands 35 = .ok (.ior, 1) := by decide +kernel
theorem dX4_airsAtErrands_36 : decode cX4_airsAtErrands 36 = .ok (.istore_n 1, 1) := by decide +kernel
theorem dX4_airsAtErrands_37 : decode cX4_airsAtErrands 37 = .ok (.iinc 2 1, 3) := by decide +kernel
theorem dX4_airsAtErrands_40 : decode cX4_airsAtErrands 40 = .ok (.goto (-36), 3) := by decide +kernel
theorem dX4_airsAtErrands_43 : decode cX4_airsAtErrands 43 = .ok (.iload_n 1, 1) := by decide +kernel
theorem dX4_airsAtErrands_44 : decode cX4_airsAtErrands 44 = .ok (.ireturn, 1) := by decide +kernel
theorem dX4_housesWithAirs_0 : decode cX4_housesWithAirs 0 = .ok (.iconst 0, 1) := by decide +kernel
theorem dX4_housesWithAirs_1 : decode cX4_housesWithAirs 1 = .ok (.istore_n 1, 1) := by decide +kernel
theorem dX4_housesWithAirs_2 : decode cX4_housesWithAirs 2 = .ok (.iconst 0, 1) := by decide +kernel
theorem dX4_housesWithAirs_3 : decode cX4_housesWithAirs 3 = .ok (.istore_n 2, 1) := by decide +kernel
theorem dX4_housesWithAirs_4 : decode cX4_housesWithAirs 4 = .ok (.iload_n 2, 1) := by decide +kernel
theorem dX4_housesWithAirs_5 : decode cX4_housesWithAirs 5 = .ok (.aload_n 0, 1) := by decide +kernel
theorem dX4_housesWithAirs_6 : decode cX4_housesWithAirs 6 = .ok (.getfield 49, 3) := by decide +kernel
theorem dX4_housesWithAirs_9 : decode cX4_housesWithAirs 9 = .ok (.if_icmp .ge 20, 3) := by decide +kernel
theorem dX4_housesWithAirs_12 : decode cX4_housesWithAirs 12 = .ok (.iload_n 1, 1) := by decide +kernel
theorem dX4_housesWithAirs_13 : decode cX4_housesWithAirs 13 = .ok (.iconst 1, 1) := by decide +kernel
theorem dX4_housesWithAirs_14 : decode cX4_housesWithAirs 14 = .ok (.aload_n 0, 1) := by decide +kernel
theorem dX4_housesWithAirs_15 : decode cX4_housesWithAirs 15 = .ok (.getfield 27, 3) := by decide +kernel
theorem dX4_housesWithAirs_18 : decode cX4_housesWithAirs 18 = .ok (.iload_n 2, 1) := by decide +kernel
theorem dX4_housesWithAirs_19 : decode cX4_housesWithAirs 19 = .ok (.iaload, 1) := by decide +kernel
theorem dX4_housesWithAirs_20 : decode cX4_housesWithAirs 20 = .ok (.ishl, 1) := by decide +kernel
theorem dX4_housesWithAirs_21 : decode cX4_housesWithAirs 21 = .ok (.ior, 1) := by decide +kernel
theorem dX4_housesWithAirs_22 : decode cX4_housesWithAirs 22 = .ok (.istore_n 1, 1) := by decide +kernel
theorem dX4_housesWithAirs_23 : decode cX4_housesWithAirs 23 = .ok (.iinc 2 1, 3) := by decide +kernel
theorem dX4_housesWithAirs_26 : decode cX4_housesWithAirs 26 = .ok (.goto (-22), 3) := by decide +kernel
theorem dX4_housesWithAirs_29 : decode cX4_housesWithAirs 29 = .ok (.iload_n 1, 1) := by decide +kernel
theorem dX4_housesWithAirs_30 : decode cX4_housesWithAirs 30 = .ok (.ireturn, 1) := by decide +kernel
theorem dX4_housesWetBy_0 : decode cX4_housesWetBy 0 = .ok (.iconst 0, 1) := by decide +kernel
theorem dX4_housesWetBy_1 : decode cX4_housesWetBy 1 = .ok (.istore_n 2, 1) := by decide +kernel
theorem dX4_housesWetBy_2 : decode cX4_housesWetBy 2 = .ok (.iconst 0, 1) := by decide +kernel
theorem dX4_housesWetBy_3 : decode cX4_housesWetBy 3 = .ok (.istore_n 3, 1) := by decide +kernel
theorem dX4_housesWetBy_4 : decode cX4_housesWetBy 4 = .ok (.iload_n 3, 1) := by decide +kernel
theorem dX4_housesWetBy_5 : decode cX4_housesWetBy 5 = .ok (.bipush 16, 2) := by decide +kernel
theorem dX4_housesWetBy_7 : decode cX4_housesWetBy 7 = .ok (.if_icmp .ge 29, 3) := by decide +kernel
theorem dX4_housesWetBy_10 : decode cX4_housesWetBy 10 = .ok (.iload_n 2, 1) := by decide +kernel
theorem dX4_housesWetBy_11 : decode cX4_housesWetBy 11 = .ok (.aload_n 0, 1) := by decide +kernel
theorem dX4_housesWetBy_12 : decode cX4_housesWetBy 12 = .ok (.getfield 15, 3) := by decide +kernel
theorem dX4_housesWetBy_15 : decode cX4_housesWetBy 15 = .ok (.iload_n 3, 1) := by decide +kernel
theorem dX4_housesWetBy_16 : decode cX4_housesWetBy 16 = .ok (.iaload, 1) := by decide +kernel
theorem dX4_housesWetBy_17 : decode cX4_housesWetBy 17 = .ok (.iload_n 1, 1) := by decide +kernel
theorem dX4_housesWetBy_18 : decode cX4_housesWetBy 18 = .ok (.if_icmp .lt 9, 3) := by decide +kernel
theorem dX4_housesWetBy_21 : decode cX4_housesWetBy 21 = .ok (.iconst 1, 1) := by decide +kernel
theorem dX4_housesWetBy_22 : decode cX4_housesWetBy 22 = .ok (.iload_n 3, 1) := by decide +kernel
theorem dX4_housesWetBy_23 : decode cX4_housesWetBy 23 = .ok (.ishl, 1) := by decide +kernel
theorem dX4_housesWetBy_24 : decode cX4_housesWetBy 24 = .ok (.goto 4, 3) := by decide +kernel
theorem dX4_housesWetBy_27 : decode cX4_housesWetBy 27 = .ok (.iconst 0, 1) := by decide +kernel
theorem dX4_housesWetBy_28 : decode cX4_housesWetBy 28 = .ok (.ior, 1) := by decide +kernel
theorem dX4_housesWetBy_29 : decode cX4_housesWetBy 29 = .ok (.istore_n 2, 1) := by decide +kernel
theorem dX4_housesWetBy_30 : decode cX4_housesWetBy 30 = .ok (.iinc 3 1, 3) := by decide +kernel
theorem dX4_housesWetBy_33 : decode cX4_housesWetBy 33 = .ok (.goto (-29), 3) := by decide +kernel
theorem dX4_housesWetBy_36 : decode cX4_housesWetBy 36 = .ok (.iload_n 2, 1) := by decide +kernel
theorem dX4_housesWetBy_37 : decode cX4_housesWetBy 37 = .ok (.ireturn, 1) := by decide +kernel
theorem dX4_wetTogether_0 : decode cX4_wetTogether 0 = .ok (.iconst 0, 1) := by decide +kernel
theorem dX4_wetTogether_1 : decode cX4_wetTogether 1 = .ok (.istore_n 1, 1) := by decide +kernel
theorem dX4_wetTogether_2 : decode cX4_wetTogether 2 = .ok (.iconst 0, 1) := by decide +kernel
theorem dX4_wetTogether_3 : decode cX4_wetTogether 3 = .ok (.istore_n 2, 1) := by decide +kernel
theorem dX4_wetTogether_4 : decode cX4_wetTogether 4 = .ok (.iload_n 2, 1) := by decide +kernel
theorem dX4_wetTogether_5 : decode cX4_wetTogether 5 = .ok (.bipush 16, 2) := by decide +kernel
theorem dX4_wetTogether_7 : decode cX4_wetTogether 7 = .ok (.if_icmp .ge 18, 3) := by decide +kernel
theorem dX4_wetTogether_10 : decode cX4_wetTogether 10 = .ok (.iload_n 1, 1) := by decide +kernel
theorem dX4_wetTogether_11 : decode cX4_wetTogether 11 = .ok (.aload_n 0, 1) := by decide +kernel
theorem dX4_wetTogether_12 : decode cX4_wetTogether 12 = .ok (.getfield 15, 3) := by decide +kernel
theorem dX4_wetTogether_15 : decode cX4_wetTogether 15 = .ok (.iload_n 2, 1) := by decide +kernel
theorem dX4_wetTogether_16 : decode cX4_wetTogether 16 = .ok (.iaload, 1) := by decide +kernel
theorem dX4_wetTogether_17 : decode cX4_wetTogether 17 = .ok (.iadd, 1) := by decide +kernel
theorem dX4_wetTogether_18 : decode cX4_wetTogether 18 = .ok (.istore_n 1, 1) := by decide +kernel
theorem dX4_wetTogether_19 : decode cX4_wetTogether 19 = .ok (.iinc 2 1, 3) := by decide +kernel
theorem dX4_wetTogether_22 : decode cX4_wetTogether 22 = .ok (.goto (-18), 3) := by decide +kernel
theorem dX4_wetTogether_25 : decode cX4_wetTogether 25 = .ok (.iload_n 1, 1) := by decide +kernel
theorem dX4_wetTogether_26 : decode cX4_wetTogether 26 = .ok (.ireturn, 1) := by decide +kernel
theorem dJ0_length_8abf5_0 : decode cJ0_length_8abf5 0 = .ok (.aload_n 0, 1) := by decide +kernel
theorem dJ0_length_8abf5_1 : decode cJ0_length_8abf5 1 = .ok (.getfield 9, 3) := by decide +kernel
theorem dJ0_length_8abf5_4 : decode cJ0_length_8abf5 4 = .ok (.arraylength, 1) := by decide +kernel
theorem dJ0_length_8abf5_5 : decode cJ0_length_8abf5 5 = .ok (.aload_n 0, 1) := by decide +kernel
theorem dJ0_length_8abf5_6 : decode cJ0_length_8abf5 6 = .ok (.invokevirtual 335, 3) := by decide +kernel
theorem dJ0_length_8abf5_9 : decode cJ0_length_8abf5 9 = .ok (.ishr, 1) := by decide +kernel
theorem dJ0_length_8abf5_10 : decode cJ0_length_8abf5 10 = .ok (.ireturn, 1) := by decide +kernel
theorem dJ0_charAt_5068e_0 : decode cJ0_charAt_5068e 0 = .ok (.aload_n 0, 1) := by decide +kernel
theorem dJ0_charAt_5068e_1 : decode cJ0_charAt_5068e 1 = .ok (.invokevirtual 492, 3) := by decide +kernel
theorem dJ0_charAt_5068e_4 : decode cJ0_charAt_5068e 4 = .ok (.ifCond .eq 12, 3) := by decide +kernel
theorem dJ0_charAt_5068e_7 : decode cJ0_charAt_5068e 7 = .ok (.aload_n 0, 1) := by decide +kernel
theorem dJ0_charAt_5068e_8 : decode cJ0_charAt_5068e 8 = .ok (.getfield 9, 3) := by decide +kernel
theorem dJ0_charAt_5068e_11 : decode cJ0_charAt_5068e 11 = .ok (.iload_n 1, 1) := by decide +kernel
theorem dJ0_charAt_5068e_12 : decode cJ0_charAt_5068e 12 = .ok (.invokestatic 495, 3) := by decide +kernel
theorem dJ0_charAt_5068e_15 : decode cJ0_charAt_5068e 15 = .ok (.ireturn, 1) := by decide +kernel
theorem dJ0_charAt_5068e_16 : decode cJ0_charAt_5068e 16 = .ok (.aload_n 0, 1) := by decide +kernel
theorem dJ0_charAt_5068e_17 : decode cJ0_charAt_5068e 17 = .ok (.getfield 9, 3) := by decide +kernel
theorem dJ0_charAt_5068e_20 : decode cJ0_charAt_5068e 20 = .ok (.iload_n 1, 1) := by decide +kernel
theorem dJ0_charAt_5068e_21 : decode cJ0_charAt_5068e 21 = .ok (.invokestatic 498, 3) := by decide +kernel
theorem dJ0_charAt_5068e_24 : decode cJ0_charAt_5068e 24 = .ok (.ireturn, 1) := by decide +kernel
theorem dJ0_coder_7d493_0 : decode cJ0_coder_7d493 0 = .ok (.getstatic 38, 3) := by decide +kernel
theorem dJ0_coder_7d493_3 : decode cJ0_coder_7d493 3 = .ok (.ifCond .eq 10, 3) := by decide +kernel
theorem dJ0_coder_7d493_6 : decode cJ0_coder_7d493 6 = .ok (.aload_n 0, 1) := by decide +kernel
theorem dJ0_coder_7d493_7 : decode cJ0_coder_7d493 7 = .ok (.getfield 15, 3) := by decide +kernel
theorem dJ0_coder_7d493_10 : decode cJ0_coder_7d493 10 = .ok (.goto 4, 3) := by decide +kernel
theorem dJ0_coder_7d493_13 : decode cJ0_coder_7d493 13 = .ok (.iconst 1, 1) := by decide +kernel
theorem dJ0_coder_7d493_14 : decode cJ0_coder_7d493 14 = .ok (.ireturn, 1) := by decide +kernel
theorem dJ0_isLatin1_aae02_0 : decode cJ0_isLatin1_aae02 0 = .ok (.getstatic 38, 3) := by decide +kernel
theorem dJ0_isLatin1_aae02_3 : decode cJ0_isLatin1_aae02 3 = .ok (.ifCond .eq 14, 3) := by decide +kernel
theorem dJ0_isLatin1_aae02_6 : decode cJ0_isLatin1_aae02 6 = .ok (.aload_n 0, 1) := by decide +kernel
theorem dJ0_isLatin1_aae02_7 : decode cJ0_isLatin1_aae02 7 = .ok (.getfield 15, 3) := by decide +kernel
theorem dJ0_isLatin1_aae02_10 : decode cJ0_isLatin1_aae02 10 = .ok (.ifCond .ne 7, 3) := by decide +kernel
theorem dJ0_isLatin1_aae02_13 : decode cJ0_isLatin1_aae02 13 = .ok (.iconst 1, 1) := by decide +kernel
theorem dJ0_isLatin1_aae02_14 : decode cJ0_isLatin1_aae02 14 = .ok (.goto 4, 3) := by decide +kernel
theorem dJ0_isLatin1_aae02_17 : decode cJ0_isLatin1_aae02 17 = .ok (.iconst 0, 1) := by decide +kernel
theorem dJ0_isLatin1_aae02_18 : decode cJ0_isLatin1_aae02 18 = .ok (.ireturn, 1) := by decide +kernel
theorem dJ0_checkIndex_df160_0 : decode cJ0_checkIndex_df160 0 = .ok (.iload_n 0, 1) := by decide +kernel
theorem dJ0_checkIndex_df160_1 : decode cJ0_checkIndex_df160 1 = .ok (.iload_n 1, 1) := by decide +kernel
theorem dJ0_checkIndex_df160_2 : decode cJ0_checkIndex_df160 2 = .ok (.getstatic 1053, 3) := by decide +kernel
theorem dJ0_checkIndex_df160_5 : decode cJ0_checkIndex_df160 5 = .ok (.invokestatic 1059, 3) := by decide +kernel
theorem dJ0_checkIndex_df160_8 : decode cJ0_checkIndex_df160 8 = .ok (.pop, 1) := by decide +kernel
theorem dJ0_checkIndex_df160_9 : decode cJ0_checkIndex_df160 9 = .ok (.return_, 1) := by decide +kernel
theorem dJ1_charAt_3b067_0 : decode cJ1_charAt_3b067 0 = .ok (.iload_n 1, 1) := by decide +kernel
theorem dJ1_charAt_3b067_1 : decode cJ1_charAt_3b067 1 = .ok (.aload_n 0, 1) := by decide +kernel
theorem dJ1_charAt_3b067_2 : decode cJ1_charAt_3b067 2 = .ok (.arraylength, 1) := by decide +kernel
theorem dJ1_charAt_3b067_3 : decode cJ1_charAt_3b067 3 = .ok (.invokestatic 9, 3) := by decide +kernel
theorem dJ1_charAt_3b067_6 : decode cJ1_charAt_3b067 6 = .ok (.aload_n 0, 1) := by decide +kernel
theorem dJ1_charAt_3b067_7 : decode cJ1_charAt_3b067 7 = .ok (.iload_n 1, 1) := by decide +kernel
theorem dJ1_charAt_3b067_8 : decode cJ1_charAt_3b067 8 = .ok (.baload, 1) := by decide +kernel
theorem dJ1_charAt_3b067_9 : decode cJ1_charAt_3b067 9 = .ok (.sipush 255, 3) := by decide +kernel
theorem dJ1_charAt_3b067_12 : decode cJ1_charAt_3b067 12 = .ok (.iand, 1) := by decide +kernel
theorem dJ1_charAt_3b067_13 : decode cJ1_charAt_3b067 13 = .ok (.i2c, 1) := by decide +kernel
theorem dJ1_charAt_3b067_14 : decode cJ1_charAt_3b067 14 = .ok (.ireturn, 1) := by decide +kernel
theorem dJ2_getChar_3b067_0 : decode cJ2_getChar_3b067 0 = .ok (.getstatic 44, 3) := by decide +kernel
theorem dJ2_getChar_3b067_3 : decode cJ2_getChar_3b067 3 = .ok (.ifCond .ne 25, 3) := by decide +kernel
theorem dJ2_getChar_3b067_6 : decode cJ2_getChar_3b067 6 = .ok (.iload_n 1, 1) := by decide +kernel
theorem dJ2_getChar_3b067_7 : decode cJ2_getChar_3b067 7 = .ok (.ifCond .lt 11, 3) := by decide +kernel
theorem dJ2_getChar_3b067_10 : decode cJ2_getChar_3b067 10 = .ok (.iload_n 1, 1) := by decide +kernel
theorem dJ2_getChar_3b067_11 : decode cJ2_getChar_3b067 11 = .ok (.aload_n 0, 1) := by decide +kernel
theorem dJ2_getChar_3b067_12 : decode cJ2_getChar_3b067 12 = .ok (.invokestatic 48, 3) := by decide +kernel
theorem dJ2_getChar_3b067_15 : decode cJ2_getChar_3b067 15 = .ok (.if_icmp .lt 13, 3) := by decide +kernel
theorem dJ2_getChar_3b067_18 : decode cJ2_getChar_3b067 18 = .ok (.new 52, 3) := by decide +kernel
theorem dJ2_getChar_3b067_21 : decode cJ2_getChar_3b067 21 = .ok (.dup, 1) := by decide +kernel
theorem dJ2_getChar_3b067_22 : decode cJ2_getChar_3b067 22 = .ok (.ldc 54, 2) := by decide +kernel
theorem dJ2_getChar_3b067_24 : decode cJ2_getChar_3b067 24 = .ok (.invokespecial 56, 3) := by decide +kernel
theorem dJ2_getChar_3b067_27 : decode cJ2_getChar_3b067 27 = .ok (.athrow, 1) := by decide +kernel
theorem dJ2_getChar_3b067_28 : decode cJ2_getChar_3b067 28 = .ok (.iload_n 1, 1) := by decide +kernel
theorem dJ2_getChar_3b067_29 : decode cJ2_getChar_3b067 29 = .ok (.iconst 1, 1) := by decide +kernel
theorem dJ2_getChar_3b067_30 : decode cJ2_getChar_3b067 30 = .ok (.ishl, 1) := by decide +kernel
theorem dJ2_getChar_3b067_31 : decode cJ2_getChar_3b067 31 = .ok (.istore_n 1, 1) := by decide +kernel
theorem dJ2_getChar_3b067_32 : decode cJ2_getChar_3b067 32 = .ok (.aload_n 0, 1) := by decide +kernel
theorem dJ2_getChar_3b067_33 : decode cJ2_getChar_3b067 33 = .ok (.iload_n 1, 1) := by decide +kernel
theorem dJ2_getChar_3b067_34 : decode cJ2_getChar_3b067 34 = .ok (.iinc 1 1, 3) := by decide +kernel
theorem dJ2_getChar_3b067_37 : decode cJ2_getChar_3b067 37 = .ok (.baload, 1) := by decide +kernel
theorem dJ2_getChar_3b067_38 : decode cJ2_getChar_3b067 38 = .ok (.sipush 255, 3) := by decide +kernel
theorem dJ2_getChar_3b067_41 : decode cJ2_getChar_3b067 41 = .ok (.iand, 1) := by decide +kernel
theorem dJ2_getChar_3b067_42 : decode cJ2_getChar_3b067 42 = .ok (.getstatic 59, 3) := by decide +kernel
theorem dJ2_getChar_3b067_45 : decode cJ2_getChar_3b067 45 = .ok (.ishl, 1) := by decide +kernel
theorem dJ2_getChar_3b067_46 : decode cJ2_getChar_3b067 46 = .ok (.aload_n 0, 1) := by decide +kernel
theorem dJ2_getChar_3b067_47 : decode cJ2_getChar_3b067 47 = .ok (.iload_n 1, 1) := by decide +kernel
theorem dJ2_getChar_3b067_48 : decode cJ2_getChar_3b067 48 = .ok (.baload, 1) := by decide +kernel
theorem dJ2_getChar_3b067_49 : decode cJ2_getChar_3b067 49 = .ok (.sipush 255, 3) := by decide +kernel
theorem dJ2_getChar_3b067_52 : decode cJ2_getChar_3b067 52 = .ok (.iand, 1) := by decide +kernel
theorem dJ2_getChar_3b067_53 : decode cJ2_getChar_3b067 53 = .ok (.getstatic 63, 3) := by decide +kernel
theorem dJ2_getChar_3b067_56 : decode cJ2_getChar_3b067 56 = .ok (.ishl, 1) := by decide +kernel
theorem dJ2_getChar_3b067_57 : decode cJ2_getChar_3b067 57 = .ok (.ior, 1) := by decide +kernel
theorem dJ2_getChar_3b067_58 : decode cJ2_getChar_3b067 58 = .ok (.i2c, 1) := by decide +kernel
theorem dJ2_getChar_3b067_59 : decode cJ2_getChar_3b067 59 = .ok (.ireturn, 1) := by decide +kernel
theorem dJ2_length_9d52b_0 : decode cJ2_length_9d52b 0 = .ok (.aload_n 0, 1) := by decide +kernel
theorem dJ2_length_9d52b_1 : decode cJ2_length_9d52b 1 = .ok (.arraylength, 1) := by decide +kernel
theorem dJ2_length_9d52b_2 : decode cJ2_length_9d52b 2 = .ok (.iconst 1, 1) := by decide +kernel
theorem dJ2_length_9d52b_3 : decode cJ2_length_9d52b 3 = .ok (.ishr, 1) := by decide +kernel
theorem dJ2_length_9d52b_4 : decode cJ2_length_9d52b 4 = .ok (.ireturn, 1) := by decide +kernel
theorem dJ2_charAt_3b067_0 : decode cJ2_charAt_3b067 0 = .ok (.iload_n 1, 1) := by decide +kernel
theorem dJ2_charAt_3b067_1 : decode cJ2_charAt_3b067 1 = .ok (.aload_n 0, 1) := by decide +kernel
theorem dJ2_charAt_3b067_2 : decode cJ2_charAt_3b067 2 = .ok (.invokestatic 67, 3) := by decide +kernel
theorem dJ2_charAt_3b067_5 : decode cJ2_charAt_3b067 5 = .ok (.aload_n 0, 1) := by decide +kernel
theorem dJ2_charAt_3b067_6 : decode cJ2_charAt_3b067 6 = .ok (.iload_n 1, 1) := by decide +kernel
theorem dJ2_charAt_3b067_7 : decode cJ2_charAt_3b067 7 = .ok (.invokestatic 71, 3) := by decide +kernel
theorem dJ2_charAt_3b067_10 : decode cJ2_charAt_3b067 10 = .ok (.ireturn, 1) := by decide +kernel
theorem dJ2_checkIndex_2214a_0 : decode cJ2_checkIndex_2214a 0 = .ok (.iload_n 0, 1) := by decide +kernel
theorem dJ2_checkIndex_2214a_1 : decode cJ2_checkIndex_2214a 1 = .ok (.aload_n 1, 1) := by decide +kernel
theorem dJ2_checkIndex_2214a_2 : decode cJ2_checkIndex_2214a 2 = .ok (.invokestatic 48, 3) := by decide +kernel
theorem dJ2_checkIndex_2214a_5 : decode cJ2_checkIndex_2214a 5 = .ok (.invokestatic 414, 3) := by decide +kernel
theorem dJ2_checkIndex_2214a_8 : decode cJ2_checkIndex_2214a 8 = .ok (.return_, 1) := by decide +kernel
theorem dJ3_checkIndex_8e157_0 : decode cJ3_checkIndex_8e157 0 = .ok (.iload_n 0, 1) := by decide +kernel
theorem dJ3_checkIndex_8e157_1 : decode cJ3_checkIndex_8e157 1 = .ok (.ifCond .lt 8, 3) := by decide +kernel
theorem dJ3_checkIndex_8e157_4 : decode cJ3_checkIndex_8e157 4 = .ok (.iload_n 0, 1) := by decide +kernel
theorem dJ3_checkIndex_8e157_5 : decode cJ3_checkIndex_8e157 5 = .ok (.iload_n 1, 1) := by decide +kernel
theorem dJ3_checkIndex_8e157_6 : decode cJ3_checkIndex_8e157 6 = .ok (.if_icmp .lt 10, 3) := by decide +kernel
theorem dJ3_checkIndex_8e157_9 : decode cJ3_checkIndex_8e157 9 = .ok (.aload_n 2, 1) := by decide +kernel
theorem dJ3_checkIndex_8e157_10 : decode cJ3_checkIndex_8e157 10 = .ok (.iload_n 0, 1) := by decide +kernel
theorem dJ3_checkIndex_8e157_11 : decode cJ3_checkIndex_8e157 11 = .ok (.iload_n 1, 1) := by decide +kernel
theorem dJ3_checkIndex_8e157_12 : decode cJ3_checkIndex_8e157 12 = .ok (.invokestatic 95, 3) := by decide +kernel
theorem dJ3_checkIndex_8e157_15 : decode cJ3_checkIndex_8e157 15 = .ok (.athrow, 1) := by decide +kernel
theorem dJ3_checkIndex_8e157_16 : decode cJ3_checkIndex_8e157 16 = .ok (.iload_n 0, 1) := by decide +kernel
theorem dJ3_checkIndex_8e157_17 : decode cJ3_checkIndex_8e157 17 = .ok (.ireturn, 1) := by decide +kernel
theorem dJ6_bitCount_0f7a4_0 : decode cJ6_bitCount_0f7a4 0 = .ok (.iload_n 0, 1) := by decide +kernel
theorem dJ6_bitCount_0f7a4_1 : decode cJ6_bitCount_0f7a4 1 = .ok (.iload_n 0, 1) := by decide +kernel
theorem dJ6_bitCount_0f7a4_2 : decode cJ6_bitCount_0f7a4 2 = .ok (.iconst 1, 1) := by decide +kernel
theorem dJ6_bitCount_0f7a4_3 : decode cJ6_bitCount_0f7a4 3 = .ok (.iushr, 1) := by decide +kernel
theorem dJ6_bitCount_0f7a4_4 : decode cJ6_bitCount_0f7a4 4 = .ok (.ldc_w 265, 3) := by decide +kernel
theorem dJ6_bitCount_0f7a4_7 : decode cJ6_bitCount_0f7a4 7 = .ok (.iand, 1) := by decide +kernel
theorem dJ6_bitCount_0f7a4_8 : decode cJ6_bitCount_0f7a4 8 = .ok (.isub, 1) := by decide +kernel
theorem dJ6_bitCount_0f7a4_9 : decode cJ6_bitCount_0f7a4 9 = .ok (.istore_n 0, 1) := by decide +kernel
theorem dJ6_bitCount_0f7a4_10 : decode cJ6_bitCount_0f7a4 10 = .ok (.iload_n 0, 1) := by decide +kernel
theorem dJ6_bitCount_0f7a4_11 : decode cJ6_bitCount_0f7a4 11 = .ok (.ldc_w 266, 3) := by decide +kernel
theorem dJ6_bitCount_0f7a4_14 : decode cJ6_bitCount_0f7a4 14 = .ok (.iand, 1) := by decide +kernel
theorem dJ6_bitCount_0f7a4_15 : decode cJ6_bitCount_0f7a4 15 = .ok (.iload_n 0, 1) := by decide +kernel
theorem dJ6_bitCount_0f7a4_16 : decode cJ6_bitCount_0f7a4 16 = .ok (.iconst 2, 1) := by decide +kernel
theorem dJ6_bitCount_0f7a4_17 : decode cJ6_bitCount_0f7a4 17 = .ok (.iushr, 1) := by decide +kernel
theorem dJ6_bitCount_0f7a4_18 : decode cJ6_bitCount_0f7a4 18 = .ok (.ldc_w 266, 3) := by decide +kernel
theorem dJ6_bitCount_0f7a4_21 : decode cJ6_bitCount_0f7a4 21 = .ok (.iand, 1) := by decide +kernel
theorem dJ6_bitCount_0f7a4_22 : decode cJ6_bitCount_0f7a4 22 = .ok (.iadd, 1) := by decide +kernel
theorem dJ6_bitCount_0f7a4_23 : decode cJ6_bitCount_0f7a4 23 = .ok (.istore_n 0, 1) := by decide +kernel
theorem dJ6_bitCount_0f7a4_24 : decode cJ6_bitCount_0f7a4 24 = .ok (.iload_n 0, 1) := by decide +kernel
theorem dJ6_bitCount_0f7a4_25 : decode cJ6_bitCount_0f7a4 25 = .ok (.iload_n 0, 1) := by decide +kernel
theorem dJ6_bitCount_0f7a4_26 : decode cJ6_bitCount_0f7a4 26 = .ok (.iconst 4, 1) := by decide +kernel
theorem dJ6_bitCount_0f7a4_27 : decode cJ6_bitCount_0f7a4 27 = .ok (.iushr, 1) := by decide +kernel
theorem dJ6_bitCount_0f7a4_28 : decode cJ6_bitCount_0f7a4 28 = .ok (.iadd, 1) := by decide +kernel
theorem dJ6_bitCount_0f7a4_29 : decode cJ6_bitCount_0f7a4 29 = .ok (.ldc_w 267, 3) := by decide +kernel
theorem dJ6_bitCount_0f7a4_32 : decode cJ6_bitCount_0f7a4 32 = .ok (.iand, 1) := by decide +kernel
theorem dJ6_bitCount_0f7a4_33 : decode cJ6_bitCount_0f7a4 33 = .ok (.istore_n 0, 1) := by decide +kernel
theorem dJ6_bitCount_0f7a4_34 : decode cJ6_bitCount_0f7a4 34 = .ok (.iload_n 0, 1) := by decide +kernel
theorem dJ6_bitCount_0f7a4_35 : decode cJ6_bitCount_0f7a4 35 = .ok (.iload_n 0, 1) := by decide +kernel
theorem dJ6_bitCount_0f7a4_36 : decode cJ6_bitCount_0f7a4 36 = .ok (.bipush 8, 2) := by decide +kernel
theorem dJ6_bitCount_0f7a4_38 : decode cJ6_bitCount_0f7a4 38 = .ok (.iushr, 1) := by decide +kernel
theorem dJ6_bitCount_0f7a4_39 : decode cJ6_bitCount_0f7a4 39 = .ok (.iadd, 1) := by decide +kernel
theorem dJ6_bitCount_0f7a4_40 : decode cJ6_bitCount_0f7a4 40 = .ok (.istore_n 0, 1) := by decide +kernel
theorem dJ6_bitCount_0f7a4_41 : decode cJ6_bitCount_0f7a4 41 = .ok (.iload_n 0, 1) := by decide +kernel
theorem dJ6_bitCount_0f7a4_42 : decode cJ6_bitCount_0f7a4 42 = .ok (.iload_n 0, 1) := by decide +kernel
theorem dJ6_bitCount_0f7a4_43 : decode cJ6_bitCount_0f7a4 43 = .ok (.bipush 16, 2) := by decide +kernel
theorem dJ6_bitCount_0f7a4_45 : decode cJ6_bitCount_0f7a4 45 = .ok (.iushr, 1) := by decide +kernel
theorem dJ6_bitCount_0f7a4_46 : decode cJ6_bitCount_0f7a4 46 = .ok (.iadd, 1) := by decide +kernel
theorem dJ6_bitCount_0f7a4_47 : decode cJ6_bitCount_0f7a4 47 = .ok (.istore_n 0, 1) := by decide +kernel
theorem dJ6_bitCount_0f7a4_48 : decode cJ6_bitCount_0f7a4 48 = .ok (.iload_n 0, 1) := by decide +kernel
theorem dJ6_bitCount_0f7a4_49 : decode cJ6_bitCount_0f7a4 49 = .ok (.bipush 63, 2) := by decide +kernel
theorem dJ6_bitCount_0f7a4_51 : decode cJ6_bitCount_0f7a4 51 = .ok (.iand, 1) := by decide +kernel
theorem dJ6_bitCount_0f7a4_52 : decode cJ6_bitCount_0f7a4 52 = .ok (.ireturn, 1) := by decide +kernel
theorem dJ7_fill_53178_0 : decode cJ7_fill_53178 0 = .ok (.iconst 0, 1) := by decide +kernel
theorem dJ7_fill_53178_1 : decode cJ7_fill_53178 1 = .ok (.istore_n 2, 1) := by decide +kernel
theorem dJ7_fill_53178_2 : decode cJ7_fill_53178 2 = .ok (.aload_n 0, 1) := by decide +kernel
theorem dJ7_fill_53178_3 : decode cJ7_fill_53178 3 = .ok (.arraylength, 1) := by decide +kernel
theorem dJ7_fill_53178_4 : decode cJ7_fill_53178 4 = .ok (.istore_n 3, 1) := by decide +kernel
theorem dJ7_fill_53178_5 : decode cJ7_fill_53178 5 = .ok (.iload_n 2, 1) := by decide +kernel
theorem dJ7_fill_53178_6 : decode cJ7_fill_53178 6 = .ok (.iload_n 3, 1) := by decide +kernel
theorem dJ7_fill_53178_7 : decode cJ7_fill_53178 7 = .ok (.if_icmp .ge 13, 3) := by decide +kernel
theorem dJ7_fill_53178_10 : decode cJ7_fill_53178 10 = .ok (.aload_n 0, 1) := by decide +kernel
theorem dJ7_fill_53178_11 : decode cJ7_fill_53178 11 = .ok (.iload_n 2, 1) := by decide +kernel
theorem dJ7_fill_53178_12 : decode cJ7_fill_53178 12 = .ok (.iload_n 1, 1) := by decide +kernel
theorem dJ7_fill_53178_13 : decode cJ7_fill_53178 13 = .ok (.iastore, 1) := by decide +kernel
theorem dJ7_fill_53178_14 : decode cJ7_fill_53178 14 = .ok (.iinc 2 1, 3) := by decide +kernel
theorem dJ7_fill_53178_17 : decode cJ7_fill_53178 17 = .ok (.goto (-12), 3) := by decide +kernel
theorem dJ7_fill_53178_20 : decode cJ7_fill_53178 20 = .ok (.return_, 1) := by decide +kernel
theorem dJ9_abs_0f7a4_0 : decode cJ9_abs_0f7a4 0 = .ok (.iload_n 0, 1) := by decide +kernel
theorem dJ9_abs_0f7a4_1 : decode cJ9_abs_0f7a4 1 = .ok (.ifCond .ge 8, 3) := by decide +kernel
theorem dJ9_abs_0f7a4_4 : decode cJ9_abs_0f7a4 4 = .ok (.iload_n 0, 1) := by decide +kernel
theorem dJ9_abs_0f7a4_5 : decode cJ9_abs_0f7a4 5 = .ok (.ineg, 1) := by decide +kernel
theorem dJ9_abs_0f7a4_6 : decode cJ9_abs_0f7a4 6 = .ok (.goto 4, 3) := by decide +kernel
theorem dJ9_abs_0f7a4_9 : decode cJ9_abs_0f7a4 9 = .ok (.iload_n 0, 1) := by decide +kernel
theorem dJ9_abs_0f7a4_10 : decode cJ9_abs_0f7a4 10 = .ok (.ireturn, 1) := by decide +kernel
theorem dJ9_max_7cf53_0 : decode cJ9_max_7cf53 0 = .ok (.iload_n 0, 1) := by decide +kernel
theorem dJ9_max_7cf53_1 : decode cJ9_max_7cf53 1 = .ok (.iload_n 1, 1) := by decide +kernel
theorem dJ9_max_7cf53_2 : decode cJ9_max_7cf53 2 = .ok (.if_icmp .lt 7, 3) := by decide +kernel
theorem dJ9_max_7cf53_5 : decode cJ9_max_7cf53 5 = .ok (.iload_n 0, 1) := by decide +kernel
theorem dJ9_max_7cf53_6 : decode cJ9_max_7cf53 6 = .ok (.goto 4, 3) := by decide +kernel
theorem dJ9_max_7cf53_9 : decode cJ9_max_7cf53 9 = .ok (.iload_n 1, 1) := by decide +kernel
theorem dJ9_max_7cf53_10 : decode cJ9_max_7cf53 10 = .ok (.ireturn, 1) := by decide +kernel
theorem dJ9_max_f86c9_0 : decode cJ9_max_f86c9 0 = .ok (.lload_n 0, 1) := by decide +kernel
theorem dJ9_max_f86c9_1 : decode cJ9_max_f86c9 1 = .ok (.lload_n 2, 1) := by decide +kernel
theorem dJ9_max_f86c9_2 : decode cJ9_max_f86c9 2 = .ok (.lcmp, 1) := by decide +kernel
theorem dJ9_max_f86c9_3 : decode cJ9_max_f86c9 3 = .ok (.ifCond .lt 7, 3) := by decide +kernel
theorem dJ9_max_f86c9_6 : decode cJ9_max_f86c9 6 = .ok (.lload_n 0, 1) := by decide +kernel
theorem dJ9_max_f86c9_7 : decode cJ9_max_f86c9 7 = .ok (.goto 4, 3) := by decide +kernel
theorem dJ9_max_f86c9_10 : decode cJ9_max_f86c9 10 = .ok (.lload_n 2, 1) := by decide +kernel
theorem dJ9_max_f86c9_11 : decode cJ9_max_f86c9 11 = .ok (.lreturn, 1) := by decide +kernel
theorem dJ9_min_7cf53_0 : decode cJ9_min_7cf53 0 = .ok (.iload_n 0, 1) := by decide +kernel
theorem dJ9_min_7cf53_1 : decode cJ9_min_7cf53 1 = .ok (.iload_n 1, 1) := by decide +kernel
theorem dJ9_min_7cf53_2 : decode cJ9_min_7cf53 2 = .ok (.if_icmp .gt 7, 3) := by decide +kernel
theorem dJ9_min_7cf53_5 : decode cJ9_min_7cf53 5 = .ok (.iload_n 0, 1) := by decide +kernel
theorem dJ9_min_7cf53_6 : decode cJ9_min_7cf53 6 = .ok (.goto 4, 3) := by decide +kernel
theorem dJ9_min_7cf53_9 : decode cJ9_min_7cf53 9 = .ok (.iload_n 1, 1) := by decide +kernel
theorem dJ9_min_7cf53_10 : decode cJ9_min_7cf53 10 = .ok (.ireturn, 1) := by decide +kernel
