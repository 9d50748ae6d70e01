/-! code, 19 -/
theorem c_307_327 : Snd 307 327 (i_iret am_okZ) := s_iret (ty := .boolean) (by decide +kernel : decode code 327 = .ok (.ireturn, 1)) rfl am_okZ_n
theorem c_307_328 : Snd 307 328 (i_iload 6 330) := s_iload (by decide +kernel : decode code 328 = .ok (.iload 6, 2)) rfl
theorem c_307_330 : Snd 307 330 (i_if (fun a => a ≠ 0) (fun _ => inferInstance) 345 333) := s_ifne (by decide +kernel : decode code 330 = .ok (.ifCond .ne 15, 3)) (by decide +kernel) rfl
theorem c_307_333 : Snd 307 333 (i_aload 3 334) := s_aload_n (by decide +kernel : decode code 333 = .ok (.aload_n 3, 1)) rfl rfl
theorem c_307_334 : Snd 307 334 (i_push (aI 0) 335) := s_iconst (by decide +kernel : decode code 334 = .ok (.iconst 0, 1)) (by decide) rfl
theorem c_307_335 : Snd 307 335 (i_lald 336) := s_lald (by decide +kernel : decode code 335 = .ok (.laload, 1)) rfl
theorem c_307_336 : Snd 307 336 (i_iload 7 338) := s_iload (by decide +kernel : decode code 336 = .ok (.iload 7, 2)) rfl
theorem c_307_338 : Snd 307 338 (i_i2l 339) := s_i2l (by decide +kernel : decode code 338 = .ok (.i2l, 1)) rfl
theorem c_307_339 : Snd 307 339 (i_lcmp 340) := s_lcmp (by decide +kernel : decode code 339 = .ok (.lcmp, 1)) rfl
theorem c_307_340 : Snd 307 340 (i_if (fun a => a = 0) (fun _ => inferInstance) 345 343) := s_ifeq (by decide +kernel : decode code 340 = .ok (.ifCond .eq 5, 3)) (by decide +kernel) rfl
theorem c_307_343 : Snd 307 343 (i_push (aI 0) 344) := s_iconst (by decide +kernel : decode code 343 = .ok (.iconst 0, 1)) (by decide) rfl
theorem c_307_344 : Snd 307 344 (i_iret am_okZ) := s_iret (ty := .boolean) (by decide +kernel : decode code 344 = .ok (.ireturn, 1)) rfl am_okZ_n
theorem c_307_345 : Snd 307 345 (i_goto 3145) := s_goto (by decide +kernel : decode code 345 = .ok (.goto 2800, 3)) (by decide +kernel)
theorem c_307_348 : Snd 307 348 (i_aload 1 349) := s_aload_n (by decide +kernel : decode code 348 = .ok (.aload_n 1, 1)) rfl rfl
theorem c_307_349 : Snd 307 349 (i_aload 0 350) := s_aload_n (by decide +kernel : decode code 349 = .ok (.aload_n 0, 1)) rfl rfl
theorem c_307_350 : Snd 307 350 (i_iload 5 352) := s_iload (by decide +kernel : decode code 350 = .ok (.iload 5, 2)) rfl
theorem c_307_352 : Snd 307 352 (i_push (aI 1) 353) := s_iconst (by decide +kernel : decode code 352 = .ok (.iconst 1, 1)) (by decide) rfl
theorem c_307_353 : Snd 307 353 (i_bin (fun a b => a + b) 354) := s_iadd (by decide +kernel : decode code 353 = .ok (.iadd, 1)) rfl
theorem c_307_354 : Snd 307 354 (i_iald 355) := s_iald (by decide +kernel : decode code 354 = .ok (.iaload, 1)) rfl
theorem c_307_355 : Snd 307 355 (i_aload 0 356) := s_aload_n (by decide +kernel : decode code 355 = .ok (.aload_n 0, 1)) rfl rfl
theorem c_307_356 : Snd 307 356 (i_iload 5 358) := s_iload (by decide +kernel : decode code 356 = .ok (.iload 5, 2)) rfl
theorem c_307_358 : Snd 307 358 (i_push (aI 2) 359) := s_iconst (by decide +kernel : decode code 358 = .ok (.iconst 2, 1)) (by decide) rfl
theorem c_307_359 : Snd 307 359 (i_bin (fun a b => a + b) 360) := s_iadd (by decide +kernel : decode code 359 = .ok (.iadd, 1)) rfl
theorem c_307_360 : Snd 307 360 (i_iald 361) := s_iald (by decide +kernel : decode code 360 = .ok (.iaload, 1)) rfl
theorem c_307_361 : Snd 307 361 (i_aload 0 362) := s_aload_n (by decide +kernel : decode code 361 = .ok (.aload_n 0, 1)) rfl rfl
theorem c_307_362 : Snd 307 362 (i_iload 5 364) := s_iload (by decide +kernel : decode code 362 = .ok (.iload 5, 2)) rfl
theorem c_307_364 : Snd 307 364 (i_push (aI 3) 365) := s_iconst (by decide +kernel : decode code 364 = .ok (.iconst 3, 1)) (by decide) rfl
theorem c_307_365 : Snd 307 365 (i_bin (fun a b => a + b) 366) := s_iadd (by decide +kernel : decode code 365 = .ok (.iadd, 1)) rfl
theorem c_307_366 : Snd 307 366 (i_iald 367) := s_iald (by decide +kernel : decode code 366 = .ok (.iaload, 1)) rfl
theorem c_307_367 : Snd 307 367 (i_aload 3 368) := s_aload_n (by decide +kernel : decode code 367 = .ok (.aload_n 3, 1)) rfl rfl
theorem c_307_368 : Snd 307 368 (i_calls 60 5) := s_callsX (by decide +kernel : decode code 368 = .ok (.invokestatic 182, 3)) ok_60 rfl w_585 w_586
theorem c_307_371 : Snd 307 371 (i_store 6 373) := s_istore (by decide +kernel : decode code 371 = .ok (.istore 6, 2)) ⟨Or.inr (by decide +kernel), by decide +kernel⟩ rfl
theorem c_307_373 : Snd 307 373 (i_aload 2 374) := s_aload_n (by decide +kernel : decode code 373 = .ok (.aload_n 2, 1)) rfl rfl
theorem c_307_374 : Snd 307 374 (i_aload 0 375) := s_aload_n (by decide +kernel : decode code 374 = .ok (.aload_n 0, 1)) rfl rfl
theorem c_307_375 : Snd 307 375 (i_iload 5 377) := s_iload (by decide +kernel : decode code 375 = .ok (.iload 5, 2)) rfl
theorem c_307_377 : Snd 307 377 (i_push (aI 1) 378) := s_iconst (by decide +kernel : decode code 377 = .ok (.iconst 1, 1)) (by decide) rfl
theorem c_307_378 : Snd 307 378 (i_bin (fun a b => a + b) 379) := s_iadd (by decide +kernel : decode code 378 = .ok (.iadd, 1)) rfl
theorem c_307_379 : Snd 307 379 (i_iald 380) := s_iald (by decide +kernel : decode code 379 = .ok (.iaload, 1)) rfl
theorem c_307_380 : Snd 307 380 (i_aload 0 381) := s_aload_n (by decide +kernel : decode code 380 = .ok (.aload_n 0, 1)) rfl rfl
theorem c_307_381 : Snd 307 381 (i_iload 5 383) := s_iload (by decide +kernel : decode code 381 = .ok (.iload 5, 2)) rfl
theorem c_307_383 : Snd 307 383 (i_push (aI 2) 384) := s_iconst (by decide +kernel : decode code 383 = .ok (.iconst 2, 1)) (by decide) rfl
theorem c_307_384 : Snd 307 384 (i_bin (fun a b => a + b) 385) := s_iadd (by decide +kernel : decode code 384 = .ok (.iadd, 1)) rfl
theorem c_307_385 : Snd 307 385 (i_iald 386) := s_iald (by decide +kernel : decode code 385 = .ok (.iaload, 1)) rfl
theorem c_307_386 : Snd 307 386 (i_aload 0 387) := s_aload_n (by decide +kernel : decode code 386 = .ok (.aload_n 0, 1)) rfl rfl
theorem c_307_387 : Snd 307 387 (i_iload 5 389) := s_iload (by decide +kernel : decode code 387 = .ok (.iload 5, 2)) rfl
theorem c_307_389 : Snd 307 389 (i_push (aI 3) 390) := s_iconst (by decide +kernel : decode code 389 = .ok (.iconst 3, 1)) (by decide) rfl
theorem c_307_390 : Snd 307 390 (i_bin (fun a b => a + b) 391) := s_iadd (by decide +kernel : decode code 390 = .ok (.iadd, 1)) rfl
theorem c_307_391 : Snd 307 391 (i_iald 392) := s_iald (by decide +kernel : decode code 391 = .ok (.iaload, 1)) rfl
theorem c_307_392 : Snd 307 392 (i_call 217 3 9) := s_call (c := 9) (nm := "SmokeRelayModel") (by decide +kernel : decode code 392 = .ok (.invokevirtual 185, 3)) ok_217 rfl (Or.inl rfl) rfl w_1400 w_1401 w_1402
theorem c_307_395 : Snd 307 395 (i_store 7 397) := s_istore (by decide +kernel : decode code 395 = .ok (.istore 7, 2)) ⟨Or.inr (by decide +kernel), by decide +kernel⟩ rfl
theorem c_307_397 : Snd 307 397 (i_aload 2 398) := s_aload_n (by decide +kernel : decode code 397 = .ok (.aload_n 2, 1)) rfl rfl
theorem c_307_398 : Snd 307 398 (i_call 209 0 9) := s_call (c := 9) (nm := "SmokeRelayModel") (by decide +kernel : decode code 398 = .ok (.invokevirtual 179, 3)) ok_209 rfl (Or.inl rfl) rfl w_1369 w_1370 w_1371
theorem c_307_401 : Snd 307 401 (i_iload 6 403) := s_iload (by decide +kernel : decode code 401 = .ok (.iload 6, 2)) rfl
theorem c_307_403 : Snd 307 403 (i_icmp (fun a b => a = b) (fun _ _ => inferInstance) 408 406) := s_icmpeq (by decide +kernel : decode code 403 = .ok (.if_icmp .eq 5, 3)) (by decide +kernel) rfl
theorem c_307_406 : Snd 307 406 (i_push (aI 0) 407) := s_iconst (by decide +kernel : decode code 406 = .ok (.iconst 0, 1)) (by decide) rfl
theorem c_307_407 : Snd 307 407 (i_iret am_okZ) := s_iret (ty := .boolean) (by decide +kernel : decode code 407 = .ok (.ireturn, 1)) rfl am_okZ_n
theorem c_307_408 : Snd 307 408 (i_iload 6 410) := s_iload (by decide +kernel : decode code 408 = .ok (.iload 6, 2)) rfl
theorem c_307_410 : Snd 307 410 (i_if (fun a => a ≠ 0) (fun _ => inferInstance) 425 413) := s_ifne (by decide +kernel : decode code 410 = .ok (.ifCond .ne 15, 3)) (by decide +kernel) rfl
theorem c_307_413 : Snd 307 413 (i_aload 3 414) := s_aload_n (by decide +kernel : decode code 413 = .ok (.aload_n 3, 1)) rfl rfl
theorem c_307_414 : Snd 307 414 (i_push (aI 0) 415) := s_iconst (by decide +kernel : decode code 414 = .ok (.iconst 0, 1)) (by decide) rfl
theorem c_307_415 : Snd 307 415 (i_lald 416) := s_lald (by decide +kernel : decode code 415 = .ok (.laload, 1)) rfl
theorem c_307_416 : Snd 307 416 (i_iload 7 418) := s_iload (by decide +kernel : decode code 416 = .ok (.iload 7, 2)) rfl
theorem c_307_418 : Snd 307 418 (i_i2l 419) := s_i2l (by decide +kernel : decode code 418 = .ok (.i2l, 1)) rfl
theorem c_307_419 : Snd 307 419 (i_lcmp 420) := s_lcmp (by decide +kernel : decode code 419 = .ok (.lcmp, 1)) rfl
theorem c_307_420 : Snd 307 420 (i_if (fun a => a = 0) (fun _ => inferInstance) 425 423) := s_ifeq (by decide +kernel : decode code 420 = .ok (.ifCond .eq 5, 3)) (by decide +kernel) rfl
theorem c_307_423 : Snd 307 423 (i_push (aI 0) 424) := s_iconst (by decide +kernel : decode code 423 = .ok (.iconst 0, 1)) (by decide) rfl
theorem c_307_424 : Snd 307 424 (i_iret am_okZ) := s_iret (ty := .boolean) (by decide +kernel : decode code 424 = .ok (.ireturn, 1)) rfl am_okZ_n
theorem c_307_425 : Snd 307 425 (i_goto 3145) := s_goto (by decide +kernel : decode code 425 = .ok (.goto 2720, 3)) (by decide +kernel)
theorem c_307_428 : Snd 307 428 (i_aload 1 429) := s_aload_n (by decide +kernel : decode code 428 = .ok (.aload_n 1, 1)) rfl rfl
theorem c_307_429 : Snd 307 429 (i_aload 0 430) := s_aload_n (by decide +kernel : decode code 429 = .ok (.aload_n 0, 1)) rfl rfl
theorem c_307_430 : Snd 307 430 (i_iload 5 432) := s_iload (by decide +kernel : decode code 430 = .ok (.iload 5, 2)) rfl
theorem c_307_432 : Snd 307 432 (i_push (aI 1) 433) := s_iconst (by decide +kernel : decode code 432 = .ok (.iconst 1, 1)) (by decide) rfl
theorem c_307_433 : Snd 307 433 (i_bin (fun a b => a + b) 434) := s_iadd (by decide +kernel : decode code 433 = .ok (.iadd, 1)) rfl
theorem c_307_434 : Snd 307 434 (i_iald 435) := s_iald (by decide +kernel : decode code 434 = .ok (.iaload, 1)) rfl
theorem c_307_435 : Snd 307 435 (i_aload 0 436) := s_aload_n (by decide +kernel : decode code 435 = .ok (.aload_n 0, 1)) rfl rfl
theorem c_307_436 : Snd 307 436 (i_iload 5 438) := s_iload (by decide +kernel : decode code 436 = .ok (.iload 5, 2)) rfl
theorem c_307_438 : Snd 307 438 (i_push (aI 2) 439) := s_iconst (by decide +kernel : decode code 438 = .ok (.iconst 2, 1)) (by decide) rfl
theorem c_307_439 : Snd 307 439 (i_bin (fun a b => a + b) 440) := s_iadd (by decide +kernel : decode code 439 = .ok (.iadd, 1)) rfl
theorem c_307_440 : Snd 307 440 (i_iald 441) := s_iald (by decide +kernel : decode code 440 = .ok (.iaload, 1)) rfl
theorem c_307_441 : Snd 307 441 (i_aload 3 442) := s_aload_n (by decide +kernel : decode code 441 = .ok (.aload_n 3, 1)) rfl rfl
theorem c_307_442 : Snd 307 442 (i_calls 67 4) := s_callsX (by decide +kernel : decode code 442 = .ok (.invokestatic 186, 3)) ok_67 rfl w_628 w_629
theorem c_307_445 : Snd 307 445 (i_store 6 447) := s_istore (by decide +kernel : decode code 445 = .ok (.istore 6, 2)) ⟨Or.inr (by decide +kernel), by decide +kernel⟩ rfl
theorem c_307_447 : Snd 307 447 (i_aload 2 448) := s_aload_n (by decide +kernel : decode code 447 = .ok (.aload_n 2, 1)) rfl rfl
theorem c_307_448 : Snd 307 448 (i_aload 0 449) := s_aload_n (by decide +kernel : decode code 448 = .ok (.aload_n 0, 1)) rfl rfl
theorem c_307_449 : Snd 307 449 (i_iload 5 451) := s_iload (by decide +kernel : decode code 449 = .ok (.iload 5, 2)) rfl
theorem c_307_451 : Snd 307 451 (i_push (aI 1) 452) := s_iconst (by decide +kernel : decode code 451 = .ok (.iconst 1, 1)) (by decide) rfl
theorem c_307_452 : Snd 307 452 (i_bin (fun a b => a + b) 453) := s_iadd (by decide +kernel : decode code 452 = .ok (.iadd, 1)) rfl
theorem c_307_453 : Snd 307 453 (i_iald 454) := s_iald (by decide +kernel : decode code 453 = .ok (.iaload, 1)) rfl
theorem c_307_454 : Snd 307 454 (i_aload 0 455) := s_aload_n (by decide +kernel : decode code 454 = .ok (.aload_n 0, 1)) rfl rfl
theorem c_307_455 : Snd 307 455 (i_iload 5 457) := s_iload (by decide +kernel : decode code 455 = .ok (.iload 5, 2)) rfl
theorem c_307_457 : Snd 307 457 (i_push (aI 2) 458) := s_iconst (by decide +kernel : decode code 457 = .ok (.iconst 2, 1)) (by decide) rfl
theorem c_307_458 : Snd 307 458 (i_bin (fun a b => a + b) 459) := s_iadd (by decide +kernel : decode code 458 = .ok (.iadd, 1)) rfl
theorem c_307_459 : Snd 307 459 (i_iald 460) := s_iald (by decide +kernel : decode code 459 = .ok (.iaload, 1)) rfl
theorem c_307_460 : Snd 307 460 (i_call 222 2 9) := s_call (c := 9) (nm := "SmokeRelayModel") (by decide +kernel : decode code 460 = .ok (.invokevirtual 188, 3)) ok_222 rfl (Or.inl rfl) rfl w_1420 w_1421 w_1422
theorem c_307_463 : Snd 307 463 (i_store 7 465) := s_istore (by decide +kernel : decode code 463 = .ok (.istore 7, 2)) ⟨Or.inr (by decide +kernel), by decide +kernel⟩ rfl
theorem c_307_465 : Snd 307 465 (i_aload 2 466) := s_aload_n (by decide +kernel : decode code 465 = .ok (.aload_n 2, 1)) rfl rfl
theorem c_307_466 : Snd 307 466 (i_call 209 0 9) := s_call (c := 9) (nm := "SmokeRelayModel") (by decide +kernel : decode code 466 = .ok (.invokevirtual 179, 3)) ok_209 rfl (Or.inl rfl) rfl w_1369 w_1370 w_1371
theorem c_307_469 : Snd 307 469 (i_iload 6 471) := s_iload (by decide +kernel : decode code 469 = .ok (.iload 6, 2)) rfl
theorem c_307_471 : Snd 307 471 (i_icmp (fun a b => a = b) (fun _ _ => inferInstance) 476 474) := s_icmpeq (by decide +kernel : decode code 471 = .ok (.if_icmp .eq 5, 3)) (by decide +kernel) rfl
theorem c_307_474 : Snd 307 474 (i_push (aI 0) 475) := s_iconst (by decide +kernel : decode code 474 = .ok (.iconst 0, 1)) (by decide) rfl
theorem c_307_475 : Snd 307 475 (i_iret am_okZ) := s_iret (ty := .boolean) (by decide +kernel : decode code 475 = .ok (.ireturn, 1)) rfl am_okZ_n
theorem c_307_476 : Snd 307 476 (i_iload 6 478) := s_iload (by decide +kernel : decode code 476 = .ok (.iload 6, 2)) rfl
theorem c_307_478 : Snd 307 478 (i_if (fun a => a ≠ 0) (fun _ => inferInstance) 493 481) := s_ifne (by decide +kernel : decode code 478 = .ok (.ifCond .ne 15, 3)) (by decide +kernel) rfl
theorem c_307_481 : Snd 307 481 (i_aload 3 482) := s_aload_n (by decide +kernel : decode code 481 = .ok (.aload_n 3, 1)) rfl rfl
theorem c_307_482 : Snd 307 482 (i_push (aI 0) 483) := s_iconst (by decide +kernel : decode code 482 = .ok (.iconst 0, 1)) (by decide) rfl
theorem c_307_483 : Snd 307 483 (i_lald 484) := s_lald (by decide +kernel : decode code 483 = .ok (.laload, 1)) rfl
theorem c_307_484 : Snd 307 484 (i_iload 7 486) := s_iload (by decide +kernel : decode code 484 = .ok (.iload 7, 2)) rfl
theorem c_307_486 : Snd 307 486 (i_i2l 487) := s_i2l (by decide +kernel : decode code 486 = .ok (.i2l, 1)) rfl
theorem c_307_487 : Snd 307 487 (i_lcmp 488) := s_lcmp (by decide +kernel : decode code 487 = .ok (.lcmp, 1)) rfl
theorem c_307_488 : Snd 307 488 (i_if (fun a => a = 0) (fun _ => inferInstance) 493 491) := s_ifeq (by decide +kernel : decode code 488 = .ok (.ifCond .eq 5, 3)) (by decide +kernel) rfl
theorem c_307_491 : Snd 307 491 (i_push (aI 0) 492) := s_iconst (by decide +kernel : decode code 491 = .ok (.iconst 0, 1)) (by decide) rfl
theorem c_307_492 : Snd 307 492 (i_iret am_okZ) := s_iret (ty := .boolean) (by decide +kernel : decode code 492 = .ok (.ireturn, 1)) rfl am_okZ_n
theorem c_307_493 : Snd 307 493 (i_goto 3145) := s_goto (by decide +kernel : decode code 493 = .ok (.goto 2652, 3)) (by decide +kernel)
theorem c_307_496 : Snd 307 496 (i_aload 1 497) := s_aload_n (by decide +kernel : decode code 496 = .ok (.aload_n 1, 1)) rfl rfl
theorem c_307_497 : Snd 307 497 (i_aload 0 498) := s_aload_n (by decide +kernel : decode code 497 = .ok (.aload_n 0, 1)) rfl rfl
theorem c_307_498 : Snd 307 498 (i_iload 5 500) := s_iload (by decide +kernel : decode code 498 = .ok (.iload 5, 2)) rfl
theorem c_307_500 : Snd 307 500 (i_push (aI 1) 501) := s_iconst (by decide +kernel : decode code 500 = .ok (.iconst 1, 1)) (by decide) rfl
theorem c_307_501 : Snd 307 501 (i_bin (fun a b => a + b) 502) := s_iadd (by decide +kernel : decode code 501 = .ok (.iadd, 1)) rfl
theorem c_307_502 : Snd 307 502 (i_iald 503) := s_iald (by decide +kernel : decode code 502 = .ok (.iaload, 1)) rfl
theorem c_307_503 : Snd 307 503 (i_aload 3 504) := s_aload_n (by decide +kernel : decode code 503 = .ok (.aload_n 3, 1)) rfl rfl
theorem c_307_504 : Snd 307 504 (i_calls 71 3) := s_callsX (by decide +kernel : decode code 504 = .ok (.invokestatic 189, 3)) ok_71 rfl w_681 w_682
theorem c_307_507 : Snd 307 507 (i_store 6 509) := s_istore (by decide +kernel : decode code 507 = .ok (.istore 6, 2)) ⟨Or.inr (by decide +kernel), by decide +kernel⟩ rfl
theorem c_307_509 : Snd 307 509 (i_aload 2 510) := s_aload_n (by decide +kernel : decode code 509 = .ok (.aload_n 2, 1)) rfl rfl
theorem c_307_510 : Snd 307 510 (i_aload 0 511) := s_aload_n (by decide +kernel : decode code 510 = .ok (.aload_n 0, 1)) rfl rfl
theorem c_307_511 : Snd 307 511 (i_iload 5 513) := s_iload (by decide +kernel : decode code 511 = .ok (.iload 5, 2)) rfl
theorem c_307_513 : Snd 307 513 (i_push (aI 1) 514) := s_iconst (by decide +kernel : decode code 513 = .ok (.iconst 1, 1)) (by decide) rfl
theorem c_307_514 : Snd 307 514 (i_bin (fun a b => a + b) 515) := s_iadd (by decide +kernel : decode code 514 = .ok (.iadd, 1)) rfl
theorem c_307_515 : Snd 307 515 (i_iald 516) := s_iald (by decide +kernel : decode code 515 = .ok (.iaload, 1)) rfl
theorem c_307_516 : Snd 307 516 (i_call 225 1 9) := s_call (c := 9) (nm := "SmokeRelayModel") (by decide +kernel : decode code 516 = .ok (.invokevirtual 192, 3)) ok_225 rfl (Or.inl rfl) rfl w_1432 w_1433 w_1434
theorem c_307_519 : Snd 307 519 (i_store 7 521) := s_istore (by decide +kernel : decode code 519 = .ok (.istore 7, 2)) ⟨Or.inr (by decide +kernel), by decide +kernel⟩ rfl
theorem c_307_521 : Snd 307 521 (i_aload 2 522) := s_aload_n (by decide +kernel : decode code 521 = .ok (.aload_n 2, 1)) rfl rfl
theorem c_307_522 : Snd 307 522 (i_call 209 0 9) := s_call (c := 9) (nm := "SmokeRelayModel") (by decide +kernel : decode code 522 = .ok (.invokevirtual 179, 3)) ok_209 rfl (Or.inl rfl) rfl w_1369 w_1370 w_1371
theorem c_307_525 : Snd 307 525 (i_iload 6 527) := s_iload (by decide +kernel : decode code 525 = .ok (.iload 6, 2)) rfl
theorem c_307_527 : Snd 307 527 (i_icmp (fun a b => a = b) (fun _ _ => inferInstance) 532 530) := s_icmpeq (by decide +kernel : decode code 527 = .ok (.if_icmp .eq 5, 3)) (by decide +kernel) rfl
theorem c_307_530 : Snd 307 530 (i_push (aI 0) 531) := s_iconst (by decide +kernel : decode code 530 = .ok (.iconst 0, 1)) (by decide) rfl
theorem c_307_531 : Snd 307 531 (i_iret am_okZ) := s_iret (ty := .boolean) (by decide +kernel : decode code 531 = .ok (.ireturn, 1)) rfl am_okZ_n
theorem c_307_532 : Snd 307 532 (i_iload 6 534) := s_iload (by decide +kernel : decode code 532 = .ok (.iload 6, 2)) rfl
theorem c_307_534 : Snd 307 534 (i_if (fun a => a ≠ 0) (fun _ => inferInstance) 549 537) := s_ifne (by decide +kernel : decode code 534 = .ok (.ifCond .ne 15, 3)) (by decide +kernel) rfl
theorem c_307_537 : Snd 307 537 (i_aload 3 538) := s_aload_n (by decide +kernel : decode code 537 = .ok (.aload_n 3, 1)) rfl rfl
theorem c_307_538 : Snd 307 538 (i_push (aI 0) 539) := s_iconst (by decide +kernel : decode code 538 = .ok (.iconst 0, 1)) (by decide) rfl
theorem c_307_539 : Snd 307 539 (i_lald 540) := s_lald (by decide +kernel : decode code 539 = .ok (.laload, 1)) rfl
theorem c_307_540 : Snd 307 540 (i_iload 7 542) := s_iload (by decide +kernel : decode code 540 = .ok (.iload 7, 2)) rfl
theorem c_307_542 : Snd 307 542 (i_i2l 543) := s_i2l (by decide +kernel : decode code 542 = .ok (.i2l, 1)) rfl
theorem c_307_543 : Snd 307 543 (i_lcmp 544) := s_lcmp (by decide +kernel : decode code 543 = .ok (.lcmp, 1)) rfl
theorem c_307_544 : Snd 307 544 (i_if (fun a => a = 0) (fun _ => inferInstance) 549 547) := s_ifeq (by decide +kernel : decode code 544 = .ok (.ifCond .eq 5, 3)) (by decide +kernel) rfl
theorem c_307_547 : Snd 307 547 (i_push (aI 0) 548) := s_iconst (by decide +kernel : decode code 547 = .ok (.iconst 0, 1)) (by decide) rfl
theorem c_307_548 : Snd 307 548 (i_iret am_okZ) := s_iret (ty := .boolean) (by decide +kernel : decode code 548 = .ok (.ireturn, 1)) rfl am_okZ_n
theorem c_307_549 : Snd 307 549 (i_goto 3145) := s_goto (by decide +kernel : decode code 549 = .ok (.goto 2596, 3)) (by decide +kernel)
theorem c_307_552 : Snd 307 552 (i_aload 1 553) := s_aload_n (by decide +kernel : decode code 552 = .ok (.aload_n 1, 1)) rfl rfl
theorem c_307_553 : Snd 307 553 (i_call 12 0 0) := s_call (c := 0) (nm := "SmokeRelay") (by decide +kernel : decode code 553 = .ok (.invokevirtual 193, 3)) ok_12 rfl (Or.inl rfl) rfl w_306 w_307 w_308
theorem c_307_556 : Snd 307 556 (i_aload 2 557) := s_aload_n (by decide +kernel : decode code 556 = .ok (.aload_n 2, 1)) rfl rfl
theorem c_307_557 : Snd 307 557 (i_call 227 0 9) := s_call (c := 9) (nm := "SmokeRelayModel") (by decide +kernel : decode code 557 = .ok (.invokevirtual 196, 3)) ok_227 rfl (Or.inl rfl) rfl w_1440 w_1441 w_1442
theorem c_307_560 : Snd 307 560 (i_icmp (fun a b => a = b) (fun _ _ => inferInstance) 3145 563) := s_icmpeq (by decide +kernel : decode code 560 = .ok (.if_icmp .eq 2585, 3)) (by decide +kernel) rfl
theorem c_307_563 : Snd 307 563 (i_push (aI 0) 564) := s_iconst (by decide +kernel : decode code 563 = .ok (.iconst 0, 1)) (by decide) rfl
theorem c_307_564 : Snd 307 564 (i_iret am_okZ) := s_iret (ty := .boolean) (by decide +kernel : decode code 564 = .ok (.ireturn, 1)) rfl am_okZ_n
theorem c_307_565 : Snd 307 565 (i_aload 1 566) := s_aload_n (by decide +kernel : decode code 565 = .ok (.aload_n 1, 1)) rfl rfl
theorem c_307_566 : Snd 307 566 (i_aload 0 567) := s_aload_n (by decide +kernel : decode code 566 = .ok (.aload_n 0, 1)) rfl rfl
theorem c_307_567 : Snd 307 567 (i_iload 5 569) := s_iload (by decide +kernel : decode code 567 = .ok (.iload 5, 2)) rfl
theorem c_307_569 : Snd 307 569 (i_push (aI 1) 570) := s_iconst (by decide +kernel : decode code 569 = .ok (.iconst 1, 1)) (by decide) rfl
theorem c_307_570 : Snd 307 570 (i_bin (fun a b => a + b) 571) := s_iadd (by decide +kernel : decode code 570 = .ok (.iadd, 1)) rfl
theorem c_307_571 : Snd 307 571 (i_iald 572) := s_iald (by decide +kernel : decode code 571 = .ok (.iaload, 1)) rfl
theorem c_307_572 : Snd 307 572 (i_aload 3 573) := s_aload_n (by decide +kernel : decode code 572 = .ok (.aload_n 3, 1)) rfl rfl
theorem c_307_573 : Snd 307 573 (i_calls 74 3) := s_callsX (by decide +kernel : decode code 573 = .ok (.invokestatic 197, 3)) ok_74 rfl w_692 w_693
theorem c_307_576 : Snd 307 576 (i_store 6 578) := s_istore (by decide +kernel : decode code 576 = .ok (.istore 6, 2)) ⟨Or.inr (by decide +kernel), by decide +kernel⟩ rfl
theorem c_307_578 : Snd 307 578 (i_aload 2 579) := s_aload_n (by decide +kernel : decode code 578 = .ok (.aload_n 2, 1)) rfl rfl
theorem c_307_579 : Snd 307 579 (i_aload 0 580) := s_aload_n (by decide +kernel : decode code 579 = .ok (.aload_n 0, 1)) rfl rfl
theorem c_307_580 : Snd 307 580 (i_iload 5 582) := s_iload (by decide +kernel : decode code 580 = .ok (.iload 5, 2)) rfl
theorem c_307_582 : Snd 307 582 (i_push (aI 1) 583) := s_iconst (by decide +kernel : decode code 582 = .ok (.iconst 1, 1)) (by decide) rfl
theorem c_307_583 : Snd 307 583 (i_bin (fun a b => a + b) 584) := s_iadd (by decide +kernel : decode code 583 = .ok (.iadd, 1)) rfl
theorem c_307_584 : Snd 307 584 (i_iald 585) := s_iald (by decide +kernel : decode code 584 = .ok (.iaload, 1)) rfl
theorem c_307_585 : Snd 307 585 (i_call 228 1 9) := s_call (c := 9) (nm := "SmokeRelayModel") (by decide +kernel : decode code 585 = .ok (.invokevirtual 199, 3)) ok_228 rfl (Or.inl rfl) rfl w_1444 w_1445 w_1446
theorem c_307_588 : Snd 307 588 (i_store 7 590) := s_istore (by decide +kernel : decode code 588 = .ok (.istore 7, 2)) ⟨Or.inr (by decide +kernel), by decide +kernel⟩ rfl
theorem c_307_590 : Snd 307 590 (i_aload 2 591) := s_aload_n (by decide +kernel : decode code 590 = .ok (.aload_n 2, 1)) rfl rfl
theorem c_307_591 : Snd 307 591 (i_call 209 0 9) := s_call (c := 9) (nm := "SmokeRelayModel") (by decide +kernel : decode code 591 = .ok (.invokevirtual 179, 3)) ok_209 rfl (Or.inl rfl) rfl w_1369 w_1370 w_1371
theorem c_307_594 : Snd 307 594 (i_iload 6 596) := s_iload (by decide +kernel : decode code 594 = .ok (.iload 6, 2)) rfl
theorem c_307_596 : Snd 307 596 (i_icmp (fun a b => a = b) (fun _ _ => inferInstance) 601 599) := s_icmpeq (by decide +kernel : decode code 596 = .ok (.if_icmp .eq 5, 3)) (by decide +kernel) rfl
theorem c_307_599 : Snd 307 599 (i_push (aI 0) 600) := s_iconst (by decide +kernel : decode code 599 = .ok (.iconst 0, 1)) (by decide) rfl
theorem c_307_600 : Snd 307 600 (i_iret am_okZ) := s_iret (ty := .boolean) (by decide +kernel : decode code 600 = .ok (.ireturn, 1)) rfl am_okZ_n
theorem c_307_601 : Snd 307 601 (i_iload 6 603) := s_iload (by decide +kernel : decode code 601 = .ok (.iload 6, 2)) rfl
theorem c_307_603 : Snd 307 603 (i_if (fun a => a ≠ 0) (fun _ => inferInstance) 618 606) := s_ifne (by decide +kernel : decode code 603 = .ok (.ifCond .ne 15, 3)) (by decide +kernel) rfl
theorem c_307_606 : Snd 307 606 (i_aload 3 607) := s_aload_n (by decide +kernel : decode code 606 = .ok (.aload_n 3, 1)) rfl rfl
theorem c_307_607 : Snd 307 607 (i_push (aI 0) 608) := s_iconst (by decide +kernel : decode code 607 = .ok (.iconst 0, 1)) (by decide) rfl
theorem c_307_608 : Snd 307 608 (i_lald 609) := s_lald (by decide +kernel : decode code 608 = .ok (.laload, 1)) rfl
theorem c_307_609 : Snd 307 609 (i_iload 7 611) := s_iload (by decide +kernel : decode code 609 = .ok (.iload 7, 2)) rfl
theorem c_307_611 : Snd 307 611 (i_i2l 612) := s_i2l (by decide +kernel : decode code 611 = .ok (.i2l, 1)) rfl
theorem c_307_612 : Snd 307 612 (i_lcmp 613) := s_lcmp (by decide +kernel : decode code 612 = .ok (.lcmp, 1)) rfl
theorem c_307_613 : Snd 307 613 (i_if (fun a => a = 0) (fun _ => inferInstance) 618 616) := s_ifeq (by decide +kernel : decode code 613 = .ok (.ifCond .eq 5, 3)) (by decide +kernel) rfl
theorem c_307_616 : Snd 307 616 (i_push (aI 0) 617) := s_iconst (by decide +kernel : decode code 616 = .ok (.iconst 0, 1)) (by decide) rfl
theorem c_307_617 : Snd 307 617 (i_iret am_okZ) := s_iret (ty := .boolean) (by decide +kernel : decode code 617 = .ok (.ireturn, 1)) rfl am_okZ_n
theorem c_307_618 : Snd 307 618 (i_goto 3145) := s_goto (by decide +kernel : decode code 618 = .ok (.goto 2527, 3)) (by decide +kernel)
theorem c_307_621 : Snd 307 621 (i_aload 1 622) := s_aload_n (by decide +kernel : decode code 621 = .ok (.aload_n 1, 1)) rfl rfl
theorem c_307_622 : Snd 307 622 (i_aload 0 623) := s_aload_n (by decide +kernel : decode code 622 = .ok (.aload_n 0, 1)) rfl rfl
theorem c_307_623 : Snd 307 623 (i_iload 5 625) := s_iload (by decide +kernel : decode code 623 = .ok (.iload 5, 2)) rfl
theorem c_307_625 : Snd 307 625 (i_push (aI 1) 626) := s_iconst (by decide +kernel : decode code 625 = .ok (.iconst 1, 1)) (by decide) rfl
theorem c_307_626 : Snd 307 626 (i_bin (fun a b => a + b) 627) := s_iadd (by decide +kernel : decode code 626 = .ok (.iadd, 1)) rfl
theorem c_307_627 : Snd 307 627 (i_iald 628) := s_iald (by decide +kernel : decode code 627 = .ok (.iaload, 1)) rfl
theorem c_307_628 : Snd 307 628 (i_aload 3 629) := s_aload_n (by decide +kernel : decode code 628 = .ok (.aload_n 3, 1)) rfl rfl
theorem c_307_629 : Snd 307 629 (i_calls 76 3) := s_callsX (by decide +kernel : decode code 629 = .ok (.invokestatic 200, 3)) ok_76 rfl w_699 w_700
theorem c_307_632 : Snd 307 632 (i_store 6 634) := s_istore (by decide +kernel : decode code 632 = .ok (.istore 6, 2)) ⟨Or.inr (by decide +kernel), by decide +kernel⟩ rfl
theorem c_307_634 : Snd 307 634 (i_aload 2 635) := s_aload_n (by decide +kernel : decode code 634 = .ok (.aload_n 2, 1)) rfl rfl
theorem c_307_635 : Snd 307 635 (i_aload 0 636) := s_aload_n (by decide +kernel : decode code 635 = .ok (.aload_n 0, 1)) rfl rfl
theorem c_307_636 : Snd 307 636 (i_iload 5 638) := s_iload (by decide +kernel : decode code 636 = .ok (.iload 5, 2)) rfl
theorem c_307_638 : Snd 307 638 (i_push (aI 1) 639) := s_iconst (by decide +kernel : decode code 638 = .ok (.iconst 1, 1)) (by decide) rfl
theorem c_307_639 : Snd 307 639 (i_bin (fun a b => a + b) 640) := s_iadd (by decide +kernel : decode code 639 = .ok (.iadd, 1)) rfl
theorem c_307_640 : Snd 307 640 (i_iald 641) := s_iald (by decide +kernel : decode code 640 = .ok (.iaload, 1)) rfl
theorem c_307_641 : Snd 307 641 (i_call 230 1 9) := s_call (c := 9) (nm := "SmokeRelayModel") (by decide +kernel : decode code 641 = .ok (.invokevirtual 202, 3)) ok_230 rfl (Or.inl rfl) rfl w_1452 w_1453 w_1454
theorem c_307_644 : Snd 307 644 (i_store 7 646) := s_istore (by decide +kernel : decode code 644 = .ok (.istore 7, 2)) ⟨Or.inr (by decide +kernel), by decide +kernel⟩ rfl
theorem c_307_646 : Snd 307 646 (i_aload 2 647) := s_aload_n (by decide +kernel : decode code 646 = .ok (.aload_n 2, 1)) rfl rfl
theorem c_307_647 : Snd 307 647 (i_call 209 0 9) := s_call (c := 9) (nm := "SmokeRelayModel") (by decide +kernel : decode code 647 = .ok (.invokevirtual 179, 3)) ok_209 rfl (Or.inl rfl) rfl w_1369 w_1370 w_1371
theorem c_307_650 : Snd 307 650 (i_iload 6 652) := s_iload (by decide +kernel : decode code 650 = .ok (.iload 6, 2)) rfl
theorem c_307_652 : Snd 307 652 (i_icmp (fun a b => a = b) (fun _ _ => inferInstance) 657 655) := s_icmpeq (by decide +kernel : decode code 652 = .ok (.if_icmp .eq 5, 3)) (by decide +kernel) rfl
theorem c_307_655 : Snd 307 655 (i_push (aI 0) 656) := s_iconst (by decide +kernel : decode code 655 = .ok (.iconst 0, 1)) (by decide) rfl
theorem c_307_656 : Snd 307 656 (i_iret am_okZ) := s_iret (ty := .boolean) (by decide +kernel : decode code 656 = .ok (.ireturn, 1)) rfl am_okZ_n
theorem c_307_657 : Snd 307 657 (i_iload 6 659) := s_iload (by decide +kernel : decode code 657 = .ok (.iload 6, 2)) rfl
theorem c_307_659 : Snd 307 659 (i_if (fun a => a ≠ 0) (fun _ => inferInstance) 674 662) := s_ifne (by decide +kernel : decode code 659 = .ok (.ifCond .ne 15, 3)) (by decide +kernel) rfl
theorem c_307_662 : Snd 307 662 (i_aload 3 663) := s_aload_n (by decide +kernel : decode code 662 = .ok (.aload_n 3, 1)) rfl rfl
theorem c_307_663 : Snd 307 663 (i_push (aI 0) 664) := s_iconst (by decide +kernel : decode code 663 = .ok (.iconst 0, 1)) (by decide) rfl
theorem c_307_664 : Snd 307 664 (i_lald 665) := s_lald (by decide +kernel : decode code 664 = .ok (.laload, 1)) rfl
theorem c_307_665 : Snd 307 665 (i_iload 7 667) := s_iload (by decide +kernel : decode code 665 = .ok (.iload 7, 2)) rfl
theorem c_307_667 : Snd 307 667 (i_i2l 668) := s_i2l (by decide +kernel : decode code 667 = .ok (.i2l, 1)) rfl
theorem c_307_668 : Snd 307 668 (i_lcmp 669) := s_lcmp (by decide +kernel : decode code 668 = .ok (.lcmp, 1)) rfl
theorem c_307_669 : Snd 307 669 (i_if (fun a => a = 0) (fun _ => inferInstance) 674 672) := s_ifeq (by decide +kernel : decode code 669 = .ok (.ifCond .eq 5, 3)) (by decide +kernel) rfl
theorem c_307_672 : Snd 307 672 (i_push (aI 0) 673) := s_iconst (by decide +kernel : decode code 672 = .ok (.iconst 0, 1)) (by decide) rfl
theorem c_307_673 : Snd 307 673 (i_iret am_okZ) := s_iret (ty := .boolean) (by decide +kernel : decode code 673 = .ok (.ireturn, 1)) rfl am_okZ_n
theorem c_307_674 : Snd 307 674 (i_goto 3145) := s_goto (by decide +kernel : decode code 674 = .ok (.goto 2471, 3)) (by decide +kernel)
theorem c_307_677 : Snd 307 677 (i_aload 1 678) := s_aload_n (by decide +kernel : decode code 677 = .ok (.aload_n 1, 1)) rfl rfl
theorem c_307_678 : Snd 307 678 (i_aload 0 679) := s_aload_n (by decide +kernel : decode code 678 = .ok (.aload_n 0, 1)) rfl rfl
theorem c_307_679 : Snd 307 679 (i_iload 5 681) := s_iload (by decide +kernel : decode code 679 = .ok (.iload 5, 2)) rfl
theorem c_307_681 : Snd 307 681 (i_push (aI 1) 682) := s_iconst (by decide +kernel : decode code 681 = .ok (.iconst 1, 1)) (by decide) rfl
theorem c_307_682 : Snd 307 682 (i_bin (fun a b => a + b) 683) := s_iadd (by decide +kernel : decode code 682 = .ok (.iadd, 1)) rfl
theorem c_307_683 : Snd 307 683 (i_iald 684) := s_iald (by decide +kernel : decode code 683 = .ok (.iaload, 1)) rfl
theorem c_307_684 : Snd 307 684 (i_aload 3 685) := s_aload_n (by decide +kernel : decode code 684 = .ok (.aload_n 3, 1)) rfl rfl
theorem c_307_685 : Snd 307 685 (i_calls 78 3) := s_callsX (by decide +kernel : decode code 685 = .ok (.invokestatic 203, 3)) ok_78 rfl w_707 w_708
theorem c_307_688 : Snd 307 688 (i_store 6 690) := s_istore (by decide +kernel : decode code 688 = .ok (.istore 6, 2)) ⟨Or.inr (by decide +kernel), by decide +kernel⟩ rfl
theorem c_307_690 : Snd 307 690 (i_aload 2 691) := s_aload_n (by decide +kernel : decode code 690 = .ok (.aload_n 2, 1)) rfl rfl
theorem c_307_691 : Snd 307 691 (i_aload 0 692) := s_aload_n (by decide +kernel : decode code 691 = .ok (.aload_n 0, 1)) rfl rfl
theorem c_307_692 : Snd 307 692 (i_iload 5 694) := s_iload (by decide +kernel : decode code 692 = .ok (.iload 5, 2)) rfl
theorem c_307_694 : Snd 307 694 (i_push (aI 1) 695) := s_iconst (by decide +kernel : decode code 694 = .ok (.iconst 1, 1)) (by decide) rfl
theorem c_307_695 : Snd 307 695 (i_bin (fun a b => a + b) 696) := s_iadd (by decide +kernel : decode code 695 = .ok (.iadd, 1)) rfl
theorem c_307_696 : Snd 307 696 (i_iald 697) := s_iald (by decide +kernel : decode code 696 = .ok (.iaload, 1)) rfl
theorem c_307_697 : Snd 307 697 (i_call 232 1 9) := s_call (c := 9) (nm := "SmokeRelayModel") (by decide +kernel : decode code 697 = .ok (.invokevirtual 205, 3)) ok_232 rfl (Or.inl rfl) rfl w_1460 w_1461 w_1462
theorem c_307_700 : Snd 307 700 (i_store 7 702) := s_istore (by decide +kernel : decode code 700 = .ok (.istore 7, 2)) ⟨Or.inr (by decide +kernel), by decide +kernel⟩ rfl
theorem c_307_702 : Snd 307 702 (i_aload 2 703) := s_aload_n (by decide +kernel : decode code 702 = .ok (.aload_n 2, 1)) rfl rfl
theorem c_307_703 : Snd 307 703 (i_call 209 0 9) := s_call (c := 9) (nm := "SmokeRelayModel") (by decide +kernel : decode code 703 = .ok (.invokevirtual 179, 3)) ok_209 rfl (Or.inl rfl) rfl w_1369 w_1370 w_1371
theorem c_307_706 : Snd 307 706 (i_iload 6 708) := s_iload (by decide +kernel : decode code 706 = .ok (.iload 6, 2)) rfl
theorem c_307_708 : Snd 307 708 (i_icmp (fun a b => a = b) (fun _ _ => inferInstance) 713 711) := s_icmpeq (by decide +kernel : decode code 708 = .ok (.if_icmp .eq 5, 3)) (by decide +kernel) rfl
theorem c_307_711 : Snd 307 711 (i_push (aI 0) 712) := s_iconst (by decide +kernel : decode code 711 = .ok (.iconst 0, 1)) (by decide) rfl
theorem c_307_712 : Snd 307 712 (i_iret am_okZ) := s_iret (ty := .boolean) (by decide +kernel : decode code 712 = .ok (.ireturn, 1)) rfl am_okZ_n
theorem c_307_713 : Snd 307 713 (i_iload 6 715) := s_iload (by decide +kernel : decode code 713 = .ok (.iload 6, 2)) rfl
theorem c_307_715 : Snd 307 715 (i_if (fun a => a ≠ 0) (fun _ => inferInstance) 730 718) := s_ifne (by decide +kernel : decode code 715 = .ok (.ifCond .ne 15, 3)) (by decide +kernel) rfl
theorem c_307_718 : Snd 307 718 (i_aload 3 719) := s_aload_n (by decide +kernel : decode code 718 = .ok (.aload_n 3, 1)) rfl rfl
theorem c_307_719 : Snd 307 719 (i_push (aI 0) 720) := s_iconst (by decide +kernel : decode code 719 = .ok (.iconst 0, 1)) (by decide) rfl
theorem c_307_720 : Snd 307 720 (i_lald 721) := s_lald (by decide +kernel : decode code 720 = .ok (.laload, 1)) rfl
theorem c_307_721 : Snd 307 721 (i_iload 7 723) := s_iload (by decide +kernel : decode code 721 = .ok (.iload 7, 2)) rfl
theorem c_307_723 : Snd 307 723 (i_i2l 724) := s_i2l (by decide +kernel : decode code 723 = .ok (.i2l, 1)) rfl
theorem c_307_724 : Snd 307 724 (i_lcmp 725) := s_lcmp (by decide +kernel : decode code 724 = .ok (.lcmp, 1)) rfl
theorem c_307_725 : Snd 307 725 (i_if (fun a => a = 0) (fun _ => inferInstance) 730 728) := s_ifeq (by decide +kernel : decode code 725 = .ok (.ifCond .eq 5, 3)) (by decide +kernel) rfl
theorem c_307_728 : Snd 307 728 (i_push (aI 0) 729) := s_iconst (by decide +kernel : decode code 728 = .ok (.iconst 0, 1)) (by decide) rfl
theorem c_307_729 : Snd 307 729 (i_iret am_okZ) := s_iret (ty := .boolean) (by decide +kernel : decode code 729 = .ok (.ireturn, 1)) rfl am_okZ_n
theorem c_307_730 : Snd 307 730 (i_goto 3145) := s_goto (by decide +kernel : decode code 730 = .ok (.goto 2415, 3)) (by decide +kernel)
theorem c_307_733 : Snd 307 733 (i_aload 1 734) := s_aload_n (by decide +kernel : decode code 733 = .ok (.aload_n 1, 1)) rfl rfl
theorem c_307_734 : Snd 307 734 (i_aload 0 735) := s_aload_n (by decide +kernel : decode code 734 = .ok (.aload_n 0, 1)) rfl rfl
theorem c_307_735 : Snd 307 735 (i_iload 5 737) := s_iload (by decide +kernel : decode code 735 = .ok (.iload 5, 2)) rfl
theorem c_307_737 : Snd 307 737 (i_push (aI 1) 738) := s_iconst (by decide +kernel : decode code 737 = .ok (.iconst 1, 1)) (by decide) rfl
theorem c_307_738 : Snd 307 738 (i_bin (fun a b => a + b) 739) := s_iadd (by decide +kernel : decode code 738 = .ok (.iadd, 1)) rfl
theorem c_307_739 : Snd 307 739 (i_iald 740) := s_iald (by decide +kernel : decode code 739 = .ok (.iaload, 1)) rfl
theorem c_307_740 : Snd 307 740 (i_aload 3 741) := s_aload_n (by decide +kernel : decode code 740 = .ok (.aload_n 3, 1)) rfl rfl
theorem c_307_741 : Snd 307 741 (i_calls 80 3) := s_callsX (by decide +kernel : decode code 741 = .ok (.invokestatic 206, 3)) ok_80 rfl w_714 w_715
theorem c_307_744 : Snd 307 744 (i_store 6 746) := s_istore (by decide +kernel : decode code 744 = .ok (.istore 6, 2)) ⟨Or.inr (by decide +kernel), by decide +kernel⟩ rfl
theorem c_307_746 : Snd 307 746 (i_aload 2 747) := s_aload_n (by decide +kernel : decode code 746 = .ok (.aload_n 2, 1)) rfl rfl
theorem c_307_747 : Snd 307 747 (i_aload 0 748) := s_aload_n (by decide +kernel : decode code 747 = .ok (.aload_n 0, 1)) rfl rfl
theorem c_307_748 : Snd 307 748 (i_iload 5 750) := s_iload (by decide +kernel : decode code 748 = .ok (.iload 5, 2)) rfl
theorem c_307_750 : Snd 307 750 (i_push (aI 1) 751) := s_iconst (by decide +kernel : decode code 750 = .ok (.iconst 1, 1)) (by decide) rfl
theorem c_307_751 : Snd 307 751 (i_bin (fun a b => a + b) 752) := s_iadd (by decide +kernel : decode code 751 = .ok (.iadd, 1)) rfl
theorem c_307_752 : Snd 307 752 (i_iald 753) := s_iald (by decide +kernel : decode code 752 = .ok (.iaload, 1)) rfl
theorem c_307_753 : Snd 307 753 (i_call 233 1 9) := s_call (c := 9) (nm := "SmokeRelayModel") (by decide +kernel : decode code 753 = .ok (.invokevirtual 208, 3)) ok_233 rfl (Or.inl rfl) rfl w_1464 w_1465 w_1466
theorem c_307_756 : Snd 307 756 (i_store 7 758) := s_istore (by decide +kernel : decode code 756 = .ok (.istore 7, 2)) ⟨Or.inr (by decide +kernel), by decide +kernel⟩ rfl
theorem c_307_758 : Snd 307 758 (i_aload 2 759) := s_aload_n (by decide +kernel : decode code 758 = .ok (.aload_n 2, 1)) rfl rfl
theorem c_307_759 : Snd 307 759 (i_call 209 0 9) := s_call (c := 9) (nm := "SmokeRelayModel") (by decide +kernel : decode code 759 = .ok (.invokevirtual 179, 3)) ok_209 rfl (Or.inl rfl) rfl w_1369 w_1370 w_1371
theorem c_307_762 : Snd 307 762 (i_iload 6 764) := s_iload (by decide +kernel : decode code 762 = .ok (.iload 6, 2)) rfl
theorem c_307_764 : Snd 307 764 (i_icmp (fun a b => a = b) (fun _ _ => inferInstance) 769 767) := s_icmpeq (by decide +kernel : decode code 764 = .ok (.if_icmp .eq 5, 3)) (by decide +kernel) rfl
theorem c_307_767 : Snd 307 767 (i_push (aI 0) 768) := s_iconst (by decide +kernel : decode code 767 = .ok (.iconst 0, 1)) (by decide) rfl
theorem c_307_768 : Snd 307 768 (i_iret am_okZ) := s_iret (ty := .boolean) (by decide +kernel : decode code 768 = .ok (.ireturn, 1)) rfl am_okZ_n
theorem c_307_769 : Snd 307 769 (i_iload 6 771) := s_iload (by decide +kernel : decode code 769 = .ok (.iload 6, 2)) rfl
theorem c_307_771 : Snd 307 771 (i_if (fun a => a ≠ 0) (fun _ => inferInstance) 786 774) := s_ifne (by decide +kernel : decode code 771 = .ok (.ifCond .ne 15, 3)) (by decide +kernel) rfl
theorem c_307_774 : Snd 307 774 (i_aload 3 775) := s_aload_n (by decide +kernel : decode code 774 = .ok (.aload_n 3, 1)) rfl rfl
theorem c_307_775 : Snd 307 775 (i_push (aI 0) 776) := s_iconst (by decide +kernel : decode code 775 = .ok (.iconst 0, 1)) (by decide) rfl
theorem c_307_776 : Snd 307 776 (i_lald 777) := s_lald (by decide +kernel : decode code 776 = .ok (.laload, 1)) rfl
theorem c_307_777 : Snd 307 777 (i_iload 7 779) := s_iload (by decide +kernel : decode code 777 = .ok (.iload 7, 2)) rfl
theorem c_307_779 : Snd 307 779 (i_i2l 780) := s_i2l (by decide +kernel : decode code 779 = .ok (.i2l, 1)) rfl
theorem c_307_780 : Snd 307 780 (i_lcmp 781) := s_lcmp (by decide +kernel : decode code 780 = .ok (.lcmp, 1)) rfl
theorem c_307_781 : Snd 307 781 (i_if (fun a => a = 0) (fun _ => inferInstance) 786 784) := s_ifeq (by decide +kernel : decode code 781 = .ok (.ifCond .eq 5, 3)) (by decide +kernel) rfl
theorem c_307_784 : Snd 307 784 (i_push (aI 0) 785) := s_iconst (by decide +kernel : decode code 784 = .ok (.iconst 0, 1)) (by decide) rfl
theorem c_307_785 : Snd 307 785 (i_iret am_okZ) := s_iret (ty := .boolean) (by decide +kernel : decode code 785 = .ok (.ireturn, 1)) rfl am_okZ_n
theorem c_307_786 : Snd 307 786 (i_goto 3145) := s_goto (by decide +kernel : decode code 786 = .ok (.goto 2359, 3)) (by decide +kernel)
theorem c_307_789 : Snd 307 789 (i_aload 1 790) := s_aload_n (by decide +kernel : decode code 789 = .ok (.aload_n 1, 1)) rfl rfl
theorem c_307_790 : Snd 307 790 (i_aload 0 791) := s_aload_n (by decide +kernel : decode code 790 = .ok (.aload_n 0, 1)) rfl rfl
theorem c_307_791 : Snd 307 791 (i_iload 5 793) := s_iload (by decide +kernel : decode code 791 = .ok (.iload 5, 2)) rfl
theorem c_307_793 : Snd 307 793 (i_push (aI 1) 794) := s_iconst (by decide +kernel : decode code 793 = .ok (.iconst 1, 1)) (by decide) rfl
theorem c_307_794 : Snd 307 794 (i_bin (fun a b => a + b) 795) := s_iadd (by decide +kernel : decode code 794 = .ok (.iadd, 1)) rfl
theorem c_307_795 : Snd 307 795 (i_iald 796) := s_iald (by decide +kernel : decode code 795 = .ok (.iaload, 1)) rfl
theorem c_307_796 : Snd 307 796 (i_aload 3 797) := s_aload_n (by decide +kernel : decode code 796 = .ok (.aload_n 3, 1)) rfl rfl
theorem c_307_797 : Snd 307 797 (i_calls 82 3) := s_callsX (by decide +kernel : decode code 797 = .ok (.invokestatic 209, 3)) ok_82 rfl w_738 w_739
theorem c_307_800 : Snd 307 800 (i_store 6 802) := s_istore (by decide +kernel : decode code 800 = .ok (.istore 6, 2)) ⟨Or.inr (by decide +kernel), by decide +kernel⟩ rfl
theorem c_307_802 : Snd 307 802 (i_aload 2 803) := s_aload_n (by decide +kernel : decode code 802 = .ok (.aload_n 2, 1)) rfl rfl
theorem c_307_803 : Snd 307 803 (i_aload 0 804) := s_aload_n (by decide +kernel : decode code 803 = .ok (.aload_n 0, 1)) rfl rfl
theorem c_307_804 : Snd 307 804 (i_iload 5 806) := s_iload (by decide +kernel : decode code 804 = .ok (.iload 5, 2)) rfl
theorem c_307_806 : Snd 307 806 (i_push (aI 1) 807) := s_iconst (by decide +kernel : decode code 806 = .ok (.iconst 1, 1)) (by decide) rfl
theorem c_307_807 : Snd 307 807 (i_bin (fun a b => a + b) 808) := s_iadd (by decide +kernel : decode code 807 = .ok (.iadd, 1)) rfl
theorem c_307_808 : Snd 307 808 (i_iald 809) := s_iald (by decide +kernel : decode code 808 = .ok (.iaload, 1)) rfl
theorem c_307_809 : Snd 307 809 (i_call 234 1 9) := s_call (c := 9) (nm := "SmokeRelayModel") (by decide +kernel : decode code 809 = .ok (.invokevirtual 211, 3)) ok_234 rfl (Or.inl rfl) rfl w_1468 w_1469 w_1470
theorem c_307_812 : Snd 307 812 (i_store 7 814) := s_istore (by decide +kernel : decode code 812 = .ok (.istore 7, 2)) ⟨Or.inr (by decide +kernel), by decide +kernel⟩ rfl
theorem c_307_814 : Snd 307 814 (i_aload 2 815) := s_aload_n (by decide +kernel : decode code 814 = .ok (.aload_n 2, 1)) rfl rfl
theorem c_307_815 : Snd 307 815 (i_call 209 0 9) := s_call (c := 9) (nm := "SmokeRelayModel") (by decide +kernel : decode code 815 = .ok (.invokevirtual 179, 3)) ok_209 rfl (Or.inl rfl) rfl w_1369 w_1370 w_1371
theorem c_307_818 : Snd 307 818 (i_iload 6 820) := s_iload (by decide +kernel : decode code 818 = .ok (.iload 6, 2)) rfl
theorem c_307_820 : Snd 307 820 (i_icmp (fun a b => a = b) (fun _ _ => inferInstance) 825 823) := s_icmpeq (by decide +kernel : decode code 820 = .ok (.if_icmp .eq 5, 3)) (by decide +kernel) rfl
theorem c_307_823 : Snd 307 823 (i_push (aI 0) 824) := s_iconst (by decide +kernel : decode code 823 = .ok (.iconst 0, 1)) (by decide) rfl
theorem c_307_824 : Snd 307 824 (i_iret am_okZ) := s_iret (ty := .boolean) (by decide +kernel : decode code 824 = .ok (.ireturn, 1)) rfl am_okZ_n
theorem c_307_825 : Snd 307 825 (i_iload 6 827) := s_iload (by decide +kernel : decode code 825 = .ok (.iload 6, 2)) rfl
theorem c_307_827 : Snd 307 827 (i_if (fun a => a ≠ 0) (fun _ => inferInstance) 842 830) := s_ifne (by decide +kernel : decode code 827 = .ok (.ifCond .ne 15, 3)) (by decide +kernel) rfl
theorem c_307_830 : Snd 307 830 (i_aload 3 831) := s_aload_n (by decide +kernel : decode code 830 = .ok (.aload_n 3, 1)) rfl rfl
theorem c_307_831 : Snd 307 831 (i_push (aI 0) 832) := s_iconst (by decide +kernel : decode code 831 = .ok (.iconst 0, 1)) (by decide) rfl
theorem c_307_832 : Snd 307 832 (i_lald 833) := s_lald (by decide +kernel : decode code 832 = .ok (.laload, 1)) rfl
theorem c_307_833 : Snd 307 833 (i_iload 7 835) := s_iload (by decide +kernel : decode code 833 = .ok (.iload 7, 2)) rfl
theorem c_307_835 : Snd 307 835 (i_i2l 836) := s_i2l (by decide +kernel : decode code 835 = .ok (.i2l, 1)) rfl
theorem c_307_836 : Snd 307 836 (i_lcmp 837) := s_lcmp (by decide +kernel : decode code 836 = .ok (.lcmp, 1)) rfl
theorem c_307_837 : Snd 307 837 (i_if (fun a => a = 0) (fun _ => inferInstance) 842 840) := s_ifeq (by decide +kernel : decode code 837 = .ok (.ifCond .eq 5, 3)) (by decide +kernel) rfl
theorem c_307_840 : Snd 307 840 (i_push (aI 0) 841) := s_iconst (by decide +kernel : decode code 840 = .ok (.iconst 0, 1)) (by decide) rfl
theorem c_307_841 : Snd 307 841 (i_iret am_okZ) := s_iret (ty := .boolean) (by decide +kernel : decode code 841 = .ok (.ireturn, 1)) rfl am_okZ_n
theorem c_307_842 : Snd 307 842 (i_goto 3145) := s_goto (by decide +kernel : decode code 842 = .ok (.goto 2303, 3)) (by decide +kernel)
theorem c_307_845 : Snd 307 845 (i_aload 1 846) := s_aload_n (by decide +kernel : decode code 845 = .ok (.aload_n 1, 1)) rfl rfl
theorem c_307_846 : Snd 307 846 (i_aload 0 847) := s_aload_n (by decide +kernel : decode code 846 = .ok (.aload_n 0, 1)) rfl rfl
theorem c_307_847 : Snd 307 847 (i_iload 5 849) := s_iload (by decide +kernel : decode code 847 = .ok (.iload 5, 2)) rfl
theorem c_307_849 : Snd 307 849 (i_push (aI 1) 850) := s_iconst (by decide +kernel : decode code 849 = .ok (.iconst 1, 1)) (by decide) rfl
theorem c_307_850 : Snd 307 850 (i_bin (fun a b => a + b) 851) := s_iadd (by decide +kernel : decode code 850 = .ok (.iadd, 1)) rfl
theorem c_307_851 : Snd 307 851 (i_iald 852) := s_iald (by decide +kernel : decode code 851 = .ok (.iaload, 1)) rfl
theorem c_307_852 : Snd 307 852 (i_aload 0 853) := s_aload_n (by decide +kernel : decode code 852 = .ok (.aload_n 0, 1)) rfl rfl
theorem c_307_853 : Snd 307 853 (i_iload 5 855) := s_iload (by decide +kernel : decode code 853 = .ok (.iload 5, 2)) rfl
theorem c_307_855 : Snd 307 855 (i_push (aI 2) 856) := s_iconst (by decide +kernel : decode code 855 = .ok (.iconst 2, 1)) (by decide) rfl
theorem c_307_856 : Snd 307 856 (i_bin (fun a b => a + b) 857) := s_iadd (by decide +kernel : decode code 856 = .ok (.iadd, 1)) rfl
theorem c_307_857 : Snd 307 857 (i_iald 858) := s_iald (by decide +kernel : decode code 857 = .ok (.iaload, 1)) rfl
theorem c_307_858 : Snd 307 858 (i_aload 3 859) := s_aload_n (by decide +kernel : decode code 858 = .ok (.aload_n 3, 1)) rfl rfl
theorem c_307_859 : Snd 307 859 (i_calls 86 4) := s_callsX (by decide +kernel : decode code 859 = .ok (.invokestatic 212, 3)) ok_86 rfl w_755 w_756
theorem c_307_862 : Snd 307 862 (i_store 6 864) := s_istore (by decide +kernel : decode code 862 = .ok (.istore 6, 2)) ⟨Or.inr (by decide +kernel), by decide +kernel⟩ rfl
theorem c_307_864 : Snd 307 864 (i_aload 2 865) := s_aload_n (by decide +kernel : decode code 864 = .ok (.aload_n 2, 1)) rfl rfl
theorem c_307_865 : Snd 307 865 (i_aload 0 866) := s_aload_n (by decide +kernel : decode code 865 = .ok (.aload_n 0, 1)) rfl rfl
theorem c_307_866 : Snd 307 866 (i_iload 5 868) := s_iload (by decide +kernel : decode code 866 = .ok (.iload 5, 2)) rfl
theorem c_307_868 : Snd 307 868 (i_push (aI 1) 869) := s_iconst (by decide +kernel : decode code 868 = .ok (.iconst 1, 1)) (by decide) rfl
theorem c_307_869 : Snd 307 869 (i_bin (fun a b => a + b) 870) := s_iadd (by decide +kernel : decode code 869 = .ok (.iadd, 1)) rfl
theorem c_307_870 : Snd 307 870 (i_iald 871) := s_iald (by decide +kernel : decode code 870 = .ok (.iaload, 1)) rfl
theorem c_307_871 : Snd 307 871 (i_aload 0 872) := s_aload_n (by decide +kernel : decode code 871 = .ok (.aload_n 0, 1)) rfl rfl
theorem c_307_872 : Snd 307 872 (i_iload 5 874) := s_iload (by decide +kernel : decode code 872 = .ok (.iload 5, 2)) rfl
theorem c_307_874 : Snd 307 874 (i_push (aI 2) 875) := s_iconst (by decide +kernel : decode code 874 = .ok (.iconst 2, 1)) (by decide) rfl
theorem c_307_875 : Snd 307 875 (i_bin (fun a b => a + b) 876) := s_iadd (by decide +kernel : decode code 875 = .ok (.iadd, 1)) rfl
theorem c_307_876 : Snd 307 876 (i_iald 877) := s_iald (by decide +kernel : decode code 876 = .ok (.iaload, 1)) rfl
theorem c_307_877 : Snd 307 877 (i_call 235 2 9) := s_call (c := 9) (nm := "SmokeRelayModel") (by decide +kernel : decode code 877 = .ok (.invokevirtual 214, 3)) ok_235 rfl (Or.inl rfl) rfl w_1472 w_1473 w_1474
theorem c_307_880 : Snd 307 880 (i_store 7 882) := s_istore (by decide +kernel : decode code 880 = .ok (.istore 7, 2)) ⟨Or.inr (by decide +kernel), by decide +kernel⟩ rfl
theorem c_307_882 : Snd 307 882 (i_aload 2 883) := s_aload_n (by decide +kernel : decode code 882 = .ok (.aload_n 2, 1)) rfl rfl
theorem c_307_883 : Snd 307 883 (i_call 209 0 9) := s_call (c := 9) (nm := "SmokeRelayModel") (by decide +kernel : decode code 883 = .ok (.invokevirtual 179, 3)) ok_209 rfl (Or.inl rfl) rfl w_1369 w_1370 w_1371
theorem c_307_886 : Snd 307 886 (i_iload 6 888) := s_iload (by decide +kernel : decode code 886 = .ok (.iload 6, 2)) rfl
theorem c_307_888 : Snd 307 888 (i_icmp (fun a b => a = b) (fun _ _ => inferInstance) 893 891) := s_icmpeq (by decide +kernel : decode code 888 = .ok (.if_icmp .eq 5, 3)) (by decide +kernel) rfl
theorem c_307_891 : Snd 307 891 (i_push (aI 0) 892) := s_iconst (by decide +kernel : decode code 891 = .ok (.iconst 0, 1)) (by decide) rfl
theorem c_307_892 : Snd 307 892 (i_iret am_okZ) := s_iret (ty := .boolean) (by decide +kernel : decode code 892 = .ok (.ireturn, 1)) rfl am_okZ_n
theorem c_307_893 : Snd 307 893 (i_iload 6 895) := s_iload (by decide +kernel : decode code 893 = .ok (.iload 6, 2)) rfl
theorem c_307_895 : Snd 307 895 (i_if (fun a => a ≠ 0) (fun _ => inferInstance) 917 898) := s_ifne (by decide +kernel : decode code 895 = .ok (.ifCond .ne 22, 3)) (by decide +kernel) rfl
theorem c_307_898 : Snd 307 898 (i_aload 3 899) := s_aload_n (by decide +kernel : decode code 898 = .ok (.aload_n 3, 1)) rfl rfl
theorem c_307_899 : Snd 307 899 (i_push (aI 0) 900) := s_iconst (by decide +kernel : decode code 899 = .ok (.iconst 0, 1)) (by decide) rfl
theorem c_307_900 : Snd 307 900 (i_lald 901) := s_lald (by decide +kernel : decode code 900 = .ok (.laload, 1)) rfl
theorem c_307_901 : Snd 307 901 (i_iload 7 903) := s_iload (by decide +kernel : decode code 901 = .ok (.iload 7, 2)) rfl
theorem c_307_903 : Snd 307 903 (i_if (fun a => a = 0) (fun _ => inferInstance) 910 906) := s_ifeq (by decide +kernel : decode code 903 = .ok (.ifCond .eq 7, 3)) (by decide +kernel) rfl
theorem c_307_906 : Snd 307 906 (i_push (aL 1) 907) := s_lconst (by decide +kernel : decode code 906 = .ok (.lconst 1, 1)) (by decide +kernel) rfl
theorem c_307_907 : Snd 307 907 (i_goto 911) := s_goto (by decide +kernel : decode code 907 = .ok (.goto 4, 3)) (by decide +kernel)
theorem c_307_910 : Snd 307 910 (i_push (aL 0) 911) := s_lconst (by decide +kernel : decode code 910 = .ok (.lconst 0, 1)) (by decide +kernel) rfl
theorem c_307_911 : Snd 307 911 (i_lcmp 912) := s_lcmp (by decide +kernel : decode code 911 = .ok (.lcmp, 1)) rfl
theorem c_307_912 : Snd 307 912 (i_if (fun a => a = 0) (fun _ => inferInstance) 917 915) := s_ifeq (by decide +kernel : decode code 912 = .ok (.ifCond .eq 5, 3)) (by decide +kernel) rfl
theorem c_307_915 : Snd 307 915 (i_push (aI 0) 916) := s_iconst (by decide +kernel : decode code 915 = .ok (.iconst 0, 1)) (by decide) rfl
theorem c_307_916 : Snd 307 916 (i_iret am_okZ) := s_iret (ty := .boolean) (by decide +kernel : decode code 916 = .ok (.ireturn, 1)) rfl am_okZ_n
theorem c_307_917 : Snd 307 917 (i_goto 3145) := s_goto (by decide +kernel : decode code 917 = .ok (.goto 2228, 3)) (by decide +kernel)
theorem c_307_920 : Snd 307 920 (i_aload 1 921) := s_aload_n (by decide +kernel : decode code 920 = .ok (.aload_n 1, 1)) rfl rfl
theorem c_307_921 : Snd 307 921 (i_aload 0 922) := s_aload_n (by decide +kernel : decode code 921 = .ok (.aload_n 0, 1)) rfl rfl
theorem c_307_922 : Snd 307 922 (i_iload 5 924) := s_iload (by decide +kernel : decode code 922 = .ok (.iload 5, 2)) rfl
theorem c_307_924 : Snd 307 924 (i_push (aI 1) 925) := s_iconst (by decide +kernel : decode code 924 = .ok (.iconst 1, 1)) (by decide) rfl
theorem c_307_925 : Snd 307 925 (i_bin (fun a b => a + b) 926) := s_iadd (by decide +kernel : decode code 925 = .ok (.iadd, 1)) rfl
theorem c_307_926 : Snd 307 926 (i_iald 927) := s_iald (by decide +kernel : decode code 926 = .ok (.iaload, 1)) rfl
theorem c_307_927 : Snd 307 927 (i_aload 0 928) := s_aload_n (by decide +kernel : decode code 927 = .ok (.aload_n 0, 1)) rfl rfl
theorem c_307_928 : Snd 307 928 (i_iload 5 930) := s_iload (by decide +kernel : decode code 928 = .ok (.iload 5, 2)) rfl
theorem c_307_930 : Snd 307 930 (i_push (aI 2) 931) := s_iconst (by decide +kernel : decode code 930 = .ok (.iconst 2, 1)) (by decide) rfl
theorem c_307_931 : Snd 307 931 (i_bin (fun a b => a + b) 932) := s_iadd (by decide +kernel : decode code 931 = .ok (.iadd, 1)) rfl
theorem c_307_932 : Snd 307 932 (i_iald 933) := s_iald (by decide +kernel : decode code 932 = .ok (.iaload, 1)) rfl
theorem c_307_933 : Snd 307 933 (i_aload 3 934) := s_aload_n (by decide +kernel : decode code 933 = .ok (.aload_n 3, 1)) rfl rfl
theorem c_307_934 : Snd 307 934 (i_calls 89 4) := s_callsX (by decide +kernel : decode code 934 = .ok (.invokestatic 215, 3)) ok_89 rfl w_767 w_768
theorem c_307_937 : Snd 307 937 (i_store 6 939) := s_istore (by decide +kernel : decode code 937 = .ok (.istore 6, 2)) ⟨Or.inr (by decide +kernel), by decide +kernel⟩ rfl
theorem c_307_939 : Snd 307 939 (i_aload 2 940) := s_aload_n (by decide +kernel : decode code 939 = .ok (.aload_n 2, 1)) rfl rfl
theorem c_307_940 : Snd 307 940 (i_aload 0 941) := s_aload_n (by decide +kernel : decode code 940 = .ok (.aload_n 0, 1)) rfl rfl
theorem c_307_941 : Snd 307 941 (i_iload 5 943) := s_iload (by decide +kernel : decode code 941 = .ok (.iload 5, 2)) rfl
theorem c_307_943 : Snd 307 943 (i_push (aI 1) 944) := s_iconst (by decide +kernel : decode code 943 = .ok (.iconst 1, 1)) (by decide) rfl
theorem c_307_944 : Snd 307 944 (i_bin (fun a b => a + b) 945) := s_iadd (by decide +kernel : decode code 944 = .ok (.iadd, 1)) rfl
theorem c_307_945 : Snd 307 945 (i_iald 946) := s_iald (by decide +kernel : decode code 945 = .ok (.iaload, 1)) rfl
theorem c_307_946 : Snd 307 946 (i_aload 0 947) := s_aload_n (by decide +kernel : decode code 946 = .ok (.aload_n 0, 1)) rfl rfl
theorem c_307_947 : Snd 307 947 (i_iload 5 949) := s_iload (by decide +kernel : decode code 947 = .ok (.iload 5, 2)) rfl
