theorem dX12_init_326 : decode cX12_init 326 = .ok (.sipush 300, 3) := by decide +kernel
theorem dX12_init_329 : decode cX12_init 329 = .ok (.newarray .byte, 2) := by decide +kernel
theorem dX12_init_331 : decode cX12_init 331 = .ok (.putfield 132, 3) := by decide +kernel
theorem dX12_init_334 : decode cX12_init 334 = .ok (.aload_n 0, 1) := by decide +kernel
theorem dX12_init_335 : decode cX12_init 335 = .ok (.iconst (-1), 1) := by decide +kernel
theorem dX12_init_336 : decode cX12_init 336 = .ok (.putfield 136, 3) := by decide +kernel
theorem dX12_init_339 : decode cX12_init 339 = .ok (.aload_n 0, 1) := by decide +kernel
theorem dX12_init_340 : decode cX12_init 340 = .ok (.bipush 13, 2) := by decide +kernel
theorem dX12_init_342 : decode cX12_init 342 = .ok (.newarray .int, 2) := by decide +kernel
theorem dX12_init_344 : decode cX12_init 344 = .ok (.putfield 139, 3) := by decide +kernel
theorem dX12_init_347 : decode cX12_init 347 = .ok (.aload_n 0, 1) := by decide +kernel
theorem dX12_init_348 : decode cX12_init 348 = .ok (.sipush 320, 3) := by decide +kernel
theorem dX12_init_351 : decode cX12_init 351 = .ok (.newarray .int, 2) := by decide +kernel
theorem dX12_init_353 : decode cX12_init 353 = .ok (.putfield 142, 3) := by decide +kernel
theorem dX12_init_356 : decode cX12_init 356 = .ok (.aload_n 0, 1) := by decide +kernel
theorem dX12_init_357 : decode cX12_init 357 = .ok (.bipush 12, 2) := by decide +kernel
theorem dX12_init_359 : decode cX12_init 359 = .ok (.newarray .boolean, 2) := by decide +kernel
theorem dX12_init_361 : decode cX12_init 361 = .ok (.putfield 145, 3) := by decide +kernel
theorem dX12_init_364 : decode cX12_init 364 = .ok (.aload_n 0, 1) := by decide +kernel
theorem dX12_init_365 : decode cX12_init 365 = .ok (.bipush 6, 2) := by decide +kernel
theorem dX12_init_367 : decode cX12_init 367 = .ok (.newarray .long, 2) := by decide +kernel
theorem dX12_init_369 : decode cX12_init 369 = .ok (.putfield 148, 3) := by decide +kernel
theorem dX12_init_372 : decode cX12_init 372 = .ok (.aload_n 0, 1) := by decide +kernel
theorem dX12_init_373 : decode cX12_init 373 = .ok (.bipush 12, 2) := by decide +kernel
theorem dX12_init_375 : decode cX12_init 375 = .ok (.newarray .int, 2) := by decide +kernel
theorem dX12_init_377 : decode cX12_init 377 = .ok (.putfield 152, 3) := by decide +kernel
theorem dX12_init_380 : decode cX12_init 380 = .ok (.aload_n 0, 1) := by decide +kernel
theorem dX12_init_381 : decode cX12_init 381 = .ok (.bipush 12, 2) := by decide +kernel
theorem dX12_init_383 : decode cX12_init 383 = .ok (.newarray .boolean, 2) := by decide +kernel
theorem dX12_init_385 : decode cX12_init 385 = .ok (.putfield 155, 3) := by decide +kernel
theorem dX12_init_388 : decode cX12_init 388 = .ok (.aload_n 0, 1) := by decide +kernel
theorem dX12_init_389 : decode cX12_init 389 = .ok (.bipush 12, 2) := by decide +kernel
theorem dX12_init_391 : decode cX12_init 391 = .ok (.newarray .int, 2) := by decide +kernel
theorem dX12_init_393 : decode cX12_init 393 = .ok (.putfield 158, 3) := by decide +kernel
theorem dX12_init_396 : decode cX12_init 396 = .ok (.aload_n 0, 1) := by decide +kernel
theorem dX12_init_397 : decode cX12_init 397 = .ok (.sipush 700, 3) := by decide +kernel
theorem dX12_init_400 : decode cX12_init 400 = .ok (.newarray .int, 2) := by decide +kernel
theorem dX12_init_402 : decode cX12_init 402 = .ok (.putfield 161, 3) := by decide +kernel
theorem dX12_init_405 : decode cX12_init 405 = .ok (.aload_n 0, 1) := by decide +kernel
theorem dX12_init_406 : decode cX12_init 406 = .ok (.bipush 61, 2) := by decide +kernel
theorem dX12_init_408 : decode cX12_init 408 = .ok (.newarray .int, 2) := by decide +kernel
theorem dX12_init_410 : decode cX12_init 410 = .ok (.putfield 164, 3) := by decide +kernel
theorem dX12_init_413 : decode cX12_init 413 = .ok (.aload_n 0, 1) := by decide +kernel
theorem dX12_init_414 : decode cX12_init 414 = .ok (.bipush 61, 2) := by decide +kernel
theorem dX12_init_416 : decode cX12_init 416 = .ok (.newarray .boolean, 2) := by decide +kernel
theorem dX12_init_418 : decode cX12_init 418 = .ok (.putfield 167, 3) := by decide +kernel
theorem dX12_init_421 : decode cX12_init 421 = .ok (.aload_n 0, 1) := by decide +kernel
theorem dX12_init_422 : decode cX12_init 422 = .ok (.bipush 61, 2) := by decide +kernel
theorem dX12_init_424 : decode cX12_init 424 = .ok (.newarray .int, 2) := by decide +kernel
theorem dX12_init_426 : decode cX12_init 426 = .ok (.putfield 170, 3) := by decide +kernel
theorem dX12_init_429 : decode cX12_init 429 = .ok (.aload_n 0, 1) := by decide +kernel
theorem dX12_init_430 : decode cX12_init 430 = .ok (.bipush 61, 2) := by decide +kernel
theorem dX12_init_432 : decode cX12_init 432 = .ok (.newarray .boolean, 2) := by decide +kernel
theorem dX12_init_434 : decode cX12_init 434 = .ok (.putfield 173, 3) := by decide +kernel
theorem dX12_init_437 : decode cX12_init 437 = .ok (.aload_n 0, 1) := by decide +kernel
theorem dX12_init_438 : decode cX12_init 438 = .ok (.bipush 8, 2) := by decide +kernel
theorem dX12_init_440 : decode cX12_init 440 = .ok (.newarray .int, 2) := by decide +kernel
theorem dX12_init_442 : decode cX12_init 442 = .ok (.putfield 176, 3) := by decide +kernel
theorem dX12_init_445 : decode cX12_init 445 = .ok (.aload_n 0, 1) := by decide +kernel
theorem dX12_init_446 : decode cX12_init 446 = .ok (.bipush 8, 2) := by decide +kernel
theorem dX12_init_448 : decode cX12_init 448 = .ok (.newarray .int, 2) := by decide +kernel
theorem dX12_init_450 : decode cX12_init 450 = .ok (.putfield 179, 3) := by decide +kernel
theorem dX12_init_453 : decode cX12_init 453 = .ok (.aload_n 0, 1) := by decide +kernel
theorem dX12_init_454 : decode cX12_init 454 = .ok (.bipush 8, 2) := by decide +kernel
theorem dX12_init_456 : decode cX12_init 456 = .ok (.newarray .int, 2) := by decide +kernel
theorem dX12_init_458 : decode cX12_init 458 = .ok (.putfield 182, 3) := by decide +kernel
theorem dX12_init_461 : decode cX12_init 461 = .ok (.aload_n 0, 1) := by decide +kernel
theorem dX12_init_462 : decode cX12_init 462 = .ok (.sipush 288, 3) := by decide +kernel
theorem dX12_init_465 : decode cX12_init 465 = .ok (.newarray .int, 2) := by decide +kernel
theorem dX12_init_467 : decode cX12_init 467 = .ok (.putfield 185, 3) := by decide +kernel
theorem dX12_init_470 : decode cX12_init 470 = .ok (.aload_n 0, 1) := by decide +kernel
theorem dX12_init_471 : decode cX12_init 471 = .ok (.bipush 6, 2) := by decide +kernel
theorem dX12_init_473 : decode cX12_init 473 = .ok (.newarray .int, 2) := by decide +kernel
theorem dX12_init_475 : decode cX12_init 475 = .ok (.putfield 188, 3) := by decide +kernel
theorem dX12_init_478 : decode cX12_init 478 = .ok (.aload_n 0, 1) := by decide +kernel
theorem dX12_init_479 : decode cX12_init 479 = .ok (.bipush 6, 2) := by decide +kernel
theorem dX12_init_481 : decode cX12_init 481 = .ok (.newarray .int, 2) := by decide +kernel
theorem dX12_init_483 : decode cX12_init 483 = .ok (.putfield 191, 3) := by decide +kernel
theorem dX12_init_486 : decode cX12_init 486 = .ok (.aload_n 0, 1) := by decide +kernel
theorem dX12_init_487 : decode cX12_init 487 = .ok (.bipush 61, 2) := by decide +kernel
theorem dX12_init_489 : decode cX12_init 489 = .ok (.newarray .int, 2) := by decide +kernel
theorem dX12_init_491 : decode cX12_init 491 = .ok (.putfield 194, 3) := by decide +kernel
theorem dX12_init_494 : decode cX12_init 494 = .ok (.aload_n 0, 1) := by decide +kernel
theorem dX12_init_495 : decode cX12_init 495 = .ok (.bipush 24, 2) := by decide +kernel
theorem dX12_init_497 : decode cX12_init 497 = .ok (.newarray .boolean, 2) := by decide +kernel
theorem dX12_init_499 : decode cX12_init 499 = .ok (.putfield 197, 3) := by decide +kernel
theorem dX12_init_502 : decode cX12_init 502 = .ok (.aload_n 0, 1) := by decide +kernel
theorem dX12_init_503 : decode cX12_init 503 = .ok (.sipush 288, 3) := by decide +kernel
theorem dX12_init_506 : decode cX12_init 506 = .ok (.newarray .boolean, 2) := by decide +kernel
theorem dX12_init_508 : decode cX12_init 508 = .ok (.putfield 200, 3) := by decide +kernel
theorem dX12_init_511 : decode cX12_init 511 = .ok (.aload_n 0, 1) := by decide +kernel
theorem dX12_init_512 : decode cX12_init 512 = .ok (.sipush 288, 3) := by decide +kernel
theorem dX12_init_515 : decode cX12_init 515 = .ok (.newarray .boolean, 2) := by decide +kernel
theorem dX12_init_517 : decode cX12_init 517 = .ok (.putfield 203, 3) := by decide +kernel
theorem dX12_init_520 : decode cX12_init 520 = .ok (.aload_n 0, 1) := by decide +kernel
theorem dX12_init_521 : decode cX12_init 521 = .ok (.bipush 6, 2) := by decide +kernel
theorem dX12_init_523 : decode cX12_init 523 = .ok (.newarray .int, 2) := by decide +kernel
theorem dX12_init_525 : decode cX12_init 525 = .ok (.putfield 206, 3) := by decide +kernel
theorem dX12_init_528 : decode cX12_init 528 = .ok (.return_, 1) := by decide +kernel
theorem dX12_isAffiliate_0 : decode cX12_isAffiliate 0 = .ok (.iload_n 1, 1) := by decide +kernel
theorem dX12_isAffiliate_1 : decode cX12_isAffiliate 1 = .ok (.ifCond .lt 15, 3) := by decide +kernel
theorem dX12_isAffiliate_4 : decode cX12_isAffiliate 4 = .ok (.iload_n 1, 1) := by decide +kernel
theorem dX12_isAffiliate_5 : decode cX12_isAffiliate 5 = .ok (.aload_n 0, 1) := by decide +kernel
theorem dX12_isAffiliate_6 : decode cX12_isAffiliate 6 = .ok (.getfield 209, 3) := by decide +kernel
theorem dX12_isAffiliate_9 : decode cX12_isAffiliate 9 = .ok (.if_icmp .ge 7, 3) := by decide +kernel
theorem dX12_isAffiliate_12 : decode cX12_isAffiliate 12 = .ok (.iconst 1, 1) := by decide +kernel
theorem dX12_isAffiliate_13 : decode cX12_isAffiliate 13 = .ok (.goto 4, 3) := by decide +kernel
theorem dX12_isAffiliate_16 : decode cX12_isAffiliate 16 = .ok (.iconst 0, 1) := by decide +kernel
theorem dX12_isAffiliate_17 : decode cX12_isAffiliate 17 = .ok (.ireturn, 1) := by decide +kernel
theorem dX12_isKnown_0 : decode cX12_isKnown 0 = .ok (.iload_n 1, 1) := by decide +kernel
theorem dX12_isKnown_1 : decode cX12_isKnown 1 = .ok (.ifCond .lt 15, 3) := by decide +kernel
theorem dX12_isKnown_4 : decode cX12_isKnown 4 = .ok (.iload_n 1, 1) := by decide +kernel
theorem dX12_isKnown_5 : decode cX12_isKnown 5 = .ok (.aload_n 0, 1) := by decide +kernel
theorem dX12_isKnown_6 : decode cX12_isKnown 6 = .ok (.getfield 212, 3) := by decide +kernel
theorem dX12_isKnown_9 : decode cX12_isKnown 9 = .ok (.if_icmp .gt 7, 3) := by decide +kernel
theorem dX12_isKnown_12 : decode cX12_isKnown 12 = .ok (.iconst 1, 1) := by decide +kernel
theorem dX12_isKnown_13 : decode cX12_isKnown 13 = .ok (.goto 4, 3) := by decide +kernel
theorem dX12_isKnown_16 : decode cX12_isKnown 16 = .ok (.iconst 0, 1) := by decide +kernel
theorem dX12_isKnown_17 : decode cX12_isKnown 17 = .ok (.ireturn, 1) := by decide +kernel
theorem dX12_affiliate_0 : decode cX12_affiliate 0 = .ok (.aload_n 0, 1) := by decide +kernel
theorem dX12_affiliate_1 : decode cX12_affiliate 1 = .ok (.iconst 0, 1) := by decide +kernel
theorem dX12_affiliate_2 : decode cX12_affiliate 2 = .ok (.putfield 1, 3) := by decide +kernel
theorem dX12_affiliate_5 : decode cX12_affiliate 5 = .ok (.iload_n 1, 1) := by decide +kernel
theorem dX12_affiliate_6 : decode cX12_affiliate 6 = .ok (.iconst 0, 1) := by decide +kernel
theorem dX12_affiliate_7 : decode cX12_affiliate 7 = .ok (.iconst 5, 1) := by decide +kernel
theorem dX12_affiliate_8 : decode cX12_affiliate 8 = .ok (.invokestatic 215, 3) := by decide +kernel
theorem dX12_affiliate_11 : decode cX12_affiliate 11 = .ok (.ifCond .eq 12, 3) := by decide +kernel
theorem dX12_affiliate_14 : decode cX12_affiliate 14 = .ok (.aload_n 0, 1) := by decide +kernel
theorem dX12_affiliate_15 : decode cX12_affiliate 15 = .ok (.getfield 209, 3) := by decide +kernel
theorem dX12_affiliate_18 : decode cX12_affiliate 18 = .ok (.bipush 12, 2) := by decide +kernel
theorem dX12_affiliate_20 : decode cX12_affiliate 20 = .ok (.if_icmp .ne 5, 3) := by decide +kernel
theorem dX12_affiliate_23 : decode cX12_affiliate 23 = .ok (.iconst (-1), 1) := by decide +kernel
theorem dX12_affiliate_24 : decode cX12_affiliate 24 = .ok (.ireturn, 1) := by decide +kernel
theorem dX12_affiliate_25 : decode cX12_affiliate 25 = .ok (.aload_n 0, 1) := by decide +kernel
theorem dX12_affiliate_26 : decode cX12_affiliate 26 = .ok (.getfield 13, 3) := by decide +kernel
theorem dX12_affiliate_29 : decode cX12_affiliate 29 = .ok (.aload_n 0, 1) := by decide +kernel
theorem dX12_affiliate_30 : decode cX12_affiliate 30 = .ok (.getfield 209, 3) := by decide +kernel
theorem dX12_affiliate_33 : decode cX12_affiliate 33 = .ok (.iload_n 1, 1) := by decide +kernel
theorem dX12_affiliate_34 : decode cX12_affiliate 34 = .ok (.iastore, 1) := by decide +kernel
theorem dX12_affiliate_35 : decode cX12_affiliate 35 = .ok (.aload_n 0, 1) := by decide +kernel
theorem dX12_affiliate_36 : decode cX12_affiliate 36 = .ok (.dup, 1) := by decide +kernel
theorem dX12_affiliate_37 : decode cX12_affiliate 37 = .ok (.getfield 209, 3) := by decide +kernel
theorem dX12_affiliate_40 : decode cX12_affiliate 40 = .ok (.iconst 1, 1) := by decide +kernel
theorem dX12_affiliate_41 : decode cX12_affiliate 41 = .ok (.iadd, 1) := by decide +kernel
theorem dX12_affiliate_42 : decode cX12_affiliate 42 = .ok (.putfield 209, 3) := by decide +kernel
theorem dX12_affiliate_45 : decode cX12_affiliate 45 = .ok (.aload_n 0, 1) := by decide +kernel
theorem dX12_affiliate_46 : decode cX12_affiliate 46 = .ok (.getfield 209, 3) := by decide +kernel
theorem dX12_affiliate_49 : decode cX12_affiliate 49 = .ok (.iconst 1, 1) := by decide +kernel
theorem dX12_affiliate_50 : decode cX12_affiliate 50 = .ok (.isub, 1) := by decide +kernel
theorem dX12_affiliate_51 : decode cX12_affiliate 51 = .ok (.ireturn, 1) := by decide +kernel
theorem dX12_branch_0 : decode cX12_branch 0 = .ok (.aload_n 0, 1) := by decide +kernel
theorem dX12_branch_1 : decode cX12_branch 1 = .ok (.iconst 0, 1) := by decide +kernel
theorem dX12_branch_2 : decode cX12_branch 2 = .ok (.putfield 1, 3) := by decide +kernel
theorem dX12_branch_5 : decode cX12_branch 5 = .ok (.aload_n 0, 1) := by decide +kernel
theorem dX12_branch_6 : decode cX12_branch 6 = .ok (.iload_n 1, 1) := by decide +kernel
theorem dX12_branch_7 : decode cX12_branch 7 = .ok (.invokevirtual 219, 3) := by decide +kernel
theorem dX12_branch_10 : decode cX12_branch 10 = .ok (.ifCond .eq 23, 3) := by decide +kernel
theorem dX12_branch_13 : decode cX12_branch 13 = .ok (.iload_n 2, 1) := by decide +kernel
theorem dX12_branch_14 : decode cX12_branch 14 = .ok (.iconst 1, 1) := by decide +kernel
theorem dX12_branch_15 : decode cX12_branch 15 = .ok (.sipush 999, 3) := by decide +kernel
theorem dX12_branch_18 : decode cX12_branch 18 = .ok (.invokestatic 215, 3) := by decide +kernel
theorem dX12_branch_21 : decode cX12_branch 21 = .ok (.ifCond .eq 12, 3) := by decide +kernel
theorem dX12_branch_24 : decode cX12_branch 24 = .ok (.aload_n 0, 1) := by decide +kernel
theorem dX12_branch_25 : decode cX12_branch 25 = .ok (.getfield 223, 3) := by decide +kernel
theorem dX12_branch_28 : decode cX12_branch 28 = .ok (.bipush 48, 2) := by decide +kernel
theorem dX12_branch_30 : decode cX12_branch 30 = .ok (.if_icmp .ne 5, 3) := by decide +kernel
theorem dX12_branch_33 : decode cX12_branch 33 = .ok (.iconst (-1), 1) := by decide +kernel
theorem dX12_branch_34 : decode cX12_branch 34 = .ok (.ireturn, 1) := by decide +kernel
theorem dX12_branch_35 : decode cX12_branch 35 = .ok (.aload_n 0, 1) := by decide +kernel
theorem dX12_branch_36 : decode cX12_branch 36 = .ok (.getfield 17, 3) := by decide +kernel
theorem dX12_branch_39 : decode cX12_branch 39 = .ok (.aload_n 0, 1) := by decide +kernel
theorem dX12_branch_40 : decode cX12_branch 40 = .ok (.getfield 223, 3) := by decide +kernel
theorem dX12_branch_43 : decode cX12_branch 43 = .ok (.iload_n 1, 1) := by decide +kernel
theorem dX12_branch_44 : decode cX12_branch 44 = .ok (.iastore, 1) := by decide +kernel
theorem dX12_branch_45 : decode cX12_branch 45 = .ok (.aload_n 0, 1) := by decide +kernel
theorem dX12_branch_46 : decode cX12_branch 46 = .ok (.getfield 20, 3) := by decide +kernel
theorem dX12_branch_49 : decode cX12_branch 49 = .ok (.aload_n 0, 1) := by decide +kernel
theorem dX12_branch_50 : decode cX12_branch 50 = .ok (.getfield 223, 3) := by decide +kernel
theorem dX12_branch_53 : decode cX12_branch 53 = .ok (.iload_n 2, 1) := by decide +kernel
theorem dX12_branch_54 : decode cX12_branch 54 = .ok (.iastore, 1) := by decide +kernel
theorem dX12_branch_55 : decode cX12_branch 55 = .ok (.aload_n 0, 1) := by decide +kernel
theorem dX12_branch_56 : decode cX12_branch 56 = .ok (.dup, 1) := by decide +kernel
theorem dX12_branch_57 : decode cX12_branch 57 = .ok (.getfield 223, 3) := by decide +kernel
theorem dX12_branch_60 : decode cX12_branch 60 = .ok (.iconst 1, 1) := by decide +kernel
theorem dX12_branch_61 : decode cX12_branch 61 = .ok (.iadd, 1) := by decide +kernel
theorem dX12_branch_62 : decode cX12_branch 62 = .ok (.putfield 223, 3) := by decide +kernel
theorem dX12_branch_65 : decode cX12_branch 65 = .ok (.aload_n 0, 1) := by decide +kernel
theorem dX12_branch_66 : decode cX12_branch 66 = .ok (.getfield 223, 3) := by decide +kernel
theorem dX12_branch_69 : decode cX12_branch 69 = .ok (.iconst 1, 1) := by decide +kernel
theorem dX12_branch_70 : decode cX12_branch 70 = .ok (.isub, 1) := by decide +kernel
theorem dX12_branch_71 : decode cX12_branch 71 = .ok (.ireturn, 1) := by decide +kernel
theorem dX12_day_0 : decode cX12_day 0 = .ok (.aload_n 0, 1) := by decide +kernel
theorem dX12_day_1 : decode cX12_day 1 = .ok (.iconst 0, 1) := by decide +kernel
theorem dX12_day_2 : decode cX12_day 2 = .ok (.putfield 1, 3) := by decide +kernel
theorem dX12_day_5 : decode cX12_day 5 = .ok (.iload_n 1, 1) := by decide +kernel
theorem dX12_day_6 : decode cX12_day 6 = .ok (.iconst 0, 1) := by decide +kernel
theorem dX12_day_7 : decode cX12_day 7 = .ok (.sipush 1000, 3) := by decide +kernel
theorem dX12_day_10 : decode cX12_day 10 = .ok (.invokestatic 215, 3) := by decide +kernel
theorem dX12_day_13 : decode cX12_day 13 = .ok (.ifCond .eq 14, 3) := by decide +kernel
theorem dX12_day_16 : decode cX12_day 16 = .ok (.aload_n 0, 1) := by decide +kernel
theorem dX12_day_17 : decode cX12_day 17 = .ok (.getfield 212, 3) := by decide +kernel
theorem dX12_day_20 : decode cX12_day 20 = .ok (.iload_n 1, 1) := by decide +kernel
theorem dX12_day_21 : decode cX12_day 21 = .ok (.iadd, 1) := by decide +kernel
theorem dX12_day_22 : decode cX12_day 22 = .ok (.ldc 226, 2) := by decide +kernel
theorem dX12_day_24 : decode cX12_day 24 = .ok (.if_icmp .le 5, 3) := by decide +kernel
theorem dX12_day_27 : decode cX12_day 27 = .ok (.iconst (-1), 1) := by decide +kernel
theorem dX12_day_28 : decode cX12_day 28 = .ok (.ireturn, 1) := by decide +kernel
theorem dX12_day_29 : decode cX12_day 29 = .ok (.aload_n 0, 1) := by decide +kernel
theorem dX12_day_30 : decode cX12_day 30 = .ok (.dup, 1) := by decide +kernel
theorem dX12_day_31 : decode cX12_day 31 = .ok (.getfield 212, 3) := by decide +kernel
theorem dX12_day_34 : decode cX12_day 34 = .ok (.iload_n 1, 1) := by decide +kernel
theorem dX12_day_35 : decode cX12_day 35 = .ok (.iadd, 1) := by decide +kernel
theorem dX12_day_36 : decode cX12_day 36 = .ok (.putfield 212, 3) := by decide +kernel
theorem dX12_day_39 : decode cX12_day 39 = .ok (.aload_n 0, 1) := by decide +kernel
theorem dX12_day_40 : decode cX12_day 40 = .ok (.getfield 212, 3) := by decide +kernel
theorem dX12_day_43 : decode cX12_day 43 = .ok (.ireturn, 1) := by decide +kernel
theorem dX12_closing_0 : decode cX12_closing 0 = .ok (.aload_n 0, 1) := by decide +kernel
theorem dX12_closing_1 : decode cX12_closing 1 = .ok (.iconst 0, 1) := by decide +kernel
theorem dX12_closing_2 : decode cX12_closing 2 = .ok (.putfield 1, 3) := by decide +kernel
theorem dX12_closing_5 : decode cX12_closing 5 = .ok (.iload_n 1, 1) := by decide +kernel
theorem dX12_closing_6 : decode cX12_closing 6 = .ok (.iconst (-1), 1) := by decide +kernel
theorem dX12_closing_7 : decode cX12_closing 7 = .ok (.ldc 226, 2) := by decide +kernel
theorem dX12_closing_9 : decode cX12_closing 9 = .ok (.invokestatic 215, 3) := by decide +kernel
theorem dX12_closing_12 : decode cX12_closing 12 = .ok (.ifCond .ne 5, 3) := by decide +kernel
theorem dX12_closing_15 : decode cX12_closing 15 = .ok (.iconst 0, 1) := by decide +kernel
theorem dX12_closing_16 : decode cX12_closing 16 = .ok (.ireturn, 1) := by decide +kernel
theorem dX12_closing_17 : decode cX12_closing 17 = .ok (.aload_n 0, 1) := by decide +kernel
theorem dX12_closing_18 : decode cX12_closing 18 = .ok (.iload_n 1, 1) := by decide +kernel
theorem dX12_closing_19 : decode cX12_closing 19 = .ok (.putfield 23, 3) := by decide +kernel
theorem dX12_closing_22 : decode cX12_closing 22 = .ok (.iconst 1, 1) := by decide +kernel
theorem dX12_closing_23 : decode cX12_closing 23 = .ok (.ireturn, 1) := by decide +kernel
theorem dX12_copies_0 : decode cX12_copies 0 = .ok (.iconst 0, 1) := by decide +kernel
theorem dX12_copies_1 : decode cX12_copies 1 = .ok (.istore_n 3, 1) := by decide +kernel
theorem dX12_copies_2 : decode cX12_copies 2 = .ok (.iload_n 3, 1) := by decide +kernel
theorem dX12_copies_3 : decode cX12_copies 3 = .ok (.aload_n 1, 1) := by decide +kernel
theorem dX12_copies_4 : decode cX12_copies 4 = .ok (.arraylength, 1) := by decide +kernel
theorem dX12_copies_5 : decode cX12_copies 5 = .ok (.if_icmp .ge 15, 3) := by decide +kernel
theorem dX12_copies_8 : decode cX12_copies 8 = .ok (.aload_n 2, 1) := by decide +kernel
theorem dX12_copies_9 : decode cX12_copies 9 = .ok (.iload_n 3, 1) := by decide +kernel
theorem dX12_copies_10 : decode cX12_copies 10 = .ok (.aload_n 1, 1) := by decide +kernel
theorem dX12_copies_11 : decode cX12_copies 11 = .ok (.iload_n 3, 1) := by decide +kernel
theorem dX12_copies_12 : decode cX12_copies 12 = .ok (.iaload, 1) := by decide +kernel
theorem dX12_copies_13 : decode cX12_copies 13 = .ok (.iastore, 1) := by decide +kernel
theorem dX12_copies_14 : decode cX12_copies 14 = .ok (.iinc 3 1, 3) := by decide +kernel
theorem dX12_copies_17 : decode cX12_copies 17 = .ok (.goto (-15), 3) := by decide +kernel
theorem dX12_copies_20 : decode cX12_copies 20 = .ok (.return_, 1) := by decide +kernel
theorem dX12_keeps_0 : decode cX12_keeps 0 = .ok (.aload_n 0, 1) := by decide +kernel
theorem dX12_keeps_1 : decode cX12_keeps 1 = .ok (.aload_n 0, 1) := by decide +kernel
theorem dX12_keeps_2 : decode cX12_keeps 2 = .ok (.getfield 41, 3) := by decide +kernel
theorem dX12_keeps_5 : decode cX12_keeps 5 = .ok (.putfield 69, 3) := by decide +kernel
theorem dX12_keeps_8 : decode cX12_keeps 8 = .ok (.aload_n 0, 1) := by decide +kernel
theorem dX12_keeps_9 : decode cX12_keeps 9 = .ok (.aload_n 0, 1) := by decide +kernel
theorem dX12_keeps_10 : decode cX12_keeps 10 = .ok (.getfield 44, 3) := by decide +kernel
theorem dX12_keeps_13 : decode cX12_keeps 13 = .ok (.aload_n 0, 1) := by decide +kernel
theorem dX12_keeps_14 : decode cX12_keeps 14 = .ok (.getfield 72, 3) := by decide +kernel
theorem dX12_keeps_17 : decode cX12_keeps 17 = .ok (.invokevirtual 227, 3) := by decide +kernel
theorem dX12_keeps_20 : decode cX12_keeps 20 = .ok (.aload_n 0, 1) := by decide +kernel
theorem dX12_keeps_21 : decode cX12_keeps 21 = .ok (.aload_n 0, 1) := by decide +kernel
theorem dX12_keeps_22 : decode cX12_keeps 22 = .ok (.getfield 47, 3) := by decide +kernel
theorem dX12_keeps_25 : decode cX12_keeps 25 = .ok (.aload_n 0, 1) := by decide +kernel
theorem dX12_keeps_26 : decode cX12_keeps 26 = .ok (.getfield 75, 3) := by decide +kernel
theorem dX12_keeps_29 : decode cX12_keeps 29 = .ok (.invokevirtual 227, 3) := by decide +kernel
theorem dX12_keeps_32 : decode cX12_keeps 32 = .ok (.aload_n 0, 1) := by decide +kernel
theorem dX12_keeps_33 : decode cX12_keeps 33 = .ok (.aload_n 0, 1) := by decide +kernel
theorem dX12_keeps_34 : decode cX12_keeps 34 = .ok (.getfield 50, 3) := by decide +kernel
theorem dX12_keeps_37 : decode cX12_keeps 37 = .ok (.aload_n 0, 1) := by decide +kernel
theorem dX12_keeps_38 : decode cX12_keeps 38 = .ok (.getfield 78, 3) := by decide +kernel
theorem dX12_keeps_41 : decode cX12_keeps 41 = .ok (.invokevirtual 227, 3) := by decide +kernel
theorem dX12_keeps_44 : decode cX12_keeps 44 = .ok (.aload_n 0, 1) := by decide +kernel
theorem dX12_keeps_45 : decode cX12_keeps 45 = .ok (.aload_n 0, 1) := by decide +kernel
theorem dX12_keeps_46 : decode cX12_keeps 46 = .ok (.getfield 53, 3) := by decide +kernel
theorem dX12_keeps_49 : decode cX12_keeps 49 = .ok (.aload_n 0, 1) := by decide +kernel
theorem dX12_keeps_50 : decode cX12_keeps 50 = .ok (.getfield 81, 3) := by decide +kernel
theorem dX12_keeps_53 : decode cX12_keeps 53 = .ok (.invokevirtual 227, 3) := by decide +kernel
theorem dX12_keeps_56 : decode cX12_keeps 56 = .ok (.aload_n 0, 1) := by decide +kernel
theorem dX12_keeps_57 : decode cX12_keeps 57 = .ok (.aload_n 0, 1) := by decide +kernel
theorem dX12_keeps_58 : decode cX12_keeps 58 = .ok (.getfield 56, 3) := by decide +kernel
theorem dX12_keeps_61 : decode cX12_keeps 61 = .ok (.aload_n 0, 1) := by decide +kernel
theorem dX12_keeps_62 : decode cX12_keeps 62 = .ok (.getfield 84, 3) := by decide +kernel
theorem dX12_keeps_65 : decode cX12_keeps 65 = .ok (.invokevirtual 227, 3) := by decide +kernel
theorem dX12_keeps_68 : decode cX12_keeps 68 = .ok (.aload_n 0, 1) := by decide +kernel
theorem dX12_keeps_69 : decode cX12_keeps 69 = .ok (.aload_n 0, 1) := by decide +kernel
theorem dX12_keeps_70 : decode cX12_keeps 70 = .ok (.getfield 63, 3) := by decide +kernel
theorem dX12_keeps_73 : decode cX12_keeps 73 = .ok (.aload_n 0, 1) := by decide +kernel
theorem dX12_keeps_74 : decode cX12_keeps 74 = .ok (.getfield 90, 3) := by decide +kernel
theorem dX12_keeps_77 : decode cX12_keeps 77 = .ok (.invokevirtual 227, 3) := by decide +kernel
theorem dX12_keeps_80 : decode cX12_keeps 80 = .ok (.aload_n 0, 1) := by decide +kernel
theorem dX12_keeps_81 : decode cX12_keeps 81 = .ok (.aload_n 0, 1) := by decide +kernel
theorem dX12_keeps_82 : decode cX12_keeps 82 = .ok (.getfield 66, 3) := by decide +kernel
theorem dX12_keeps_85 : decode cX12_keeps 85 = .ok (.aload_n 0, 1) := by decide +kernel
theorem dX12_keeps_86 : decode cX12_keeps 86 = .ok (.getfield 93, 3) := by decide +kernel
theorem dX12_keeps_89 : decode cX12_keeps 89 = .ok (.invokevirtual 227, 3) := by decide +kernel
theorem dX12_keeps_92 : decode cX12_keeps 92 = .ok (.iconst 0, 1) := by decide +kernel
theorem dX12_keeps_93 : decode cX12_keeps 93 = .ok (.istore_n 1, 1) := by decide +kernel
theorem dX12_keeps_94 : decode cX12_keeps 94 = .ok (.iload_n 1, 1) := by decide +kernel
theorem dX12_keeps_95 : decode cX12_keeps 95 = .ok (.sipush 288, 3) := by decide +kernel
theorem dX12_keeps_98 : decode cX12_keeps 98 = .ok (.if_icmp .ge 21, 3) := by decide +kernel
theorem dX12_keeps_101 : decode cX12_keeps 101 = .ok (.aload_n 0, 1) := by decide +kernel
theorem dX12_keeps_102 : decode cX12_keeps 102 = .ok (.getfield 87, 3) := by decide +kernel
theorem dX12_keeps_105 : decode cX12_keeps 105 = .ok (.iload_n 1, 1) := by decide +kernel
theorem dX12_keeps_106 : decode cX12_keeps 106 = .ok (.aload_n 0, 1) := by decide +kernel
theorem dX12_keeps_107 : decode cX12_keeps 107 = .ok (.getfield 59, 3) := by decide +kernel
theorem dX12_keeps_110 : decode cX12_keeps 110 = .ok (.iload_n 1, 1) := by decide +kernel
theorem dX12_keeps_111 : decode cX12_keeps 111 = .ok (.baload, 1) := by decide +kernel
theorem dX12_keeps_112 : decode cX12_keeps 112 = .ok (.bastore, 1) := by decide +kernel
theorem dX12_keeps_113 : decode cX12_keeps 113 = .ok (.iinc 1 1, 3) := by decide +kernel
theorem dX12_keeps_116 : decode cX12_keeps 116 = .ok (.goto (-22), 3) := by decide +kernel
theorem dX12_keeps_119 : decode cX12_keeps 119 = .ok (.return_, 1) := by decide +kernel
theorem dX12_goesBack_0 : decode cX12_goesBack 0 = .ok (.aload_n 0, 1) := by decide +kernel
theorem dX12_goesBack_1 : decode cX12_goesBack 1 = .ok (.aload_n 0, 1) := by decide +kernel
theorem dX12_goesBack_2 : decode cX12_goesBack 2 = .ok (.getfield 69, 3) := by decide +kernel
theorem dX12_goesBack_5 : decode cX12_goesBack 5 = .ok (.putfield 41, 3) := by decide +kernel
theorem dX12_goesBack_8 : decode cX12_goesBack 8 = .ok (.aload_n 0, 1) := by decide +kernel
theorem dX12_goesBack_9 : decode cX12_goesBack 9 = .ok (.aload_n 0, 1) := by decide +kernel
theorem dX12_goesBack_10 : decode cX12_goesBack 10 = .ok (.getfield 72, 3) := by decide +kernel
theorem dX12_goesBack_13 : decode cX12_goesBack 13 = .ok (.aload_n 0, 1) := by decide +kernel
theorem dX12_goesBack_14 : decode cX12_goesBack 14 = .ok (.getfield 44, 3) := by decide +kernel
theorem dX12_goesBack_17 : decode cX12_goesBack 17 = .ok (.invokevirtual 227, 3) := by decide +kernel
theorem dX12_goesBack_20 : decode cX12_goesBack 20 = .ok (.aload_n 0, 1) := by decide +kernel
theorem dX12_goesBack_21 : decode cX12_goesBack 21 = .ok (.aload_n 0, 1) := by decide +kernel
theorem dX12_goesBack_22 : decode cX12_goesBack 22 = .ok (.getfield 75, 3) := by decide +kernel
theorem dX12_goesBack_25 : decode cX12_goesBack 25 = .ok (.aload_n 0, 1) := by decide +kernel
theorem dX12_goesBack_26 : decode cX12_goesBack 26 = .ok (.getfield 47, 3) := by decide +kernel
theorem dX12_goesBack_29 : decode cX12_goesBack 29 = .ok (.invokevirtual 227, 3) := by decide +kernel
theorem dX12_goesBack_32 : decode cX12_goesBack 32 = .ok (.aload_n 0, 1) := by decide +kernel
theorem dX12_goesBack_33 : decode cX12_goesBack 33 = .ok (.aload_n 0, 1) := by decide +kernel
theorem dX12_goesBack_34 : decode cX12_goesBack 34 = .ok (.getfield 78, 3) := by decide +kernel
theorem dX12_goesBack_37 : decode cX12_goesBack 37 = .ok (.aload_n 0, 1) := by decide +kernel
theorem dX12_goesBack_38 : decode cX12_goesBack 38 = .ok (.getfield 50, 3) := by decide +kernel
theorem dX12_goesBack_41 : decode cX12_goesBack 41 = .ok (.invokevirtual 227, 3) := by decide +kernel
theorem dX12_goesBack_44 : decode cX12_goesBack 44 = .ok (.aload_n 0, 1) := by decide +kernel
theorem dX12_goesBack_45 : decode cX12_goesBack 45 = .ok (.aload_n 0, 1) := by decide +kernel
theorem dX12_goesBack_46 : decode cX12_goesBack 46 = .ok (.getfield 81, 3) := by decide +kernel
theorem dX12_goesBack_49 : decode cX12_goesBack 49 = .ok (.aload_n 0, 1) := by decide +kernel
theorem dX12_goesBack_50 : decode cX12_goesBack 50 = .ok (.getfield 53, 3) := by decide +kernel
theorem dX12_goesBack_53 : decode cX12_goesBack 53 = .ok (.invokevirtual 227, 3) := by decide +kernel
theorem dX12_goesBack_56 : decode cX12_goesBack 56 = .ok (.aload_n 0, 1) := by decide +kernel
theorem dX12_goesBack_57 : decode cX12_goesBack 57 = .ok (.aload_n 0, 1) := by decide +kernel
theorem dX12_goesBack_58 : decode cX12_goesBack 58 = .ok (.getfield 84, 3) := by decide +kernel
theorem dX12_goesBack_61 : decode cX12_goesBack 61 = .ok (.aload_n 0, 1) := by decide +kernel
theorem dX12_goesBack_62 : decode cX12_goesBack 62 = .ok (.getfield 56, 3) := by decide +kernel
theorem dX12_goesBack_65 : decode cX12_goesBack 65 = .ok (.invokevirtual 227, 3) := by decide +kernel
theorem dX12_goesBack_68 : decode cX12_goesBack 68 = .ok (.aload_n 0, 1) := by decide +kernel
theorem dX12_goesBack_69 : decode cX12_goesBack 69 = .ok (.aload_n 0, 1) := by decide +kernel
theorem dX12_goesBack_70 : decode cX12_goesBack 70 = .ok (.getfield 90, 3) := by decide +kernel
theorem dX12_goesBack_73 : decode cX12_goesBack 73 = .ok (.aload_n 0, 1) := by decide +kernel
theorem dX12_goesBack_74 : decode cX12_goesBack 74 = .ok (.getfield 63, 3) := by decide +kernel
theorem dX12_goesBack_77 : decode cX12_goesBack 77 = .ok (.invokevirtual 227, 3) := by decide +kernel
theorem dX12_goesBack_80 : decode cX12_goesBack 80 = .ok (.aload_n 0, 1) := by decide +kernel
theorem dX12_goesBack_81 : decode cX12_goesBack 81 = .ok (.aload_n 0, 1) := by decide +kernel
theorem dX12_goesBack_82 : decode cX12_goesBack 82 = .ok (.getfield 93, 3) := by decide +kernel
theorem dX12_goesBack_85 : decode cX12_goesBack 85 = .ok (.aload_n 0, 1) := by decide +kernel
theorem dX12_goesBack_86 : decode cX12_goesBack 86 = .ok (.getfield 66, 3) := by decide +kernel
theorem dX12_goesBack_89 : decode cX12_goesBack 89 = .ok (.invokevirtual 227, 3) := by decide +kernel
theorem dX12_goesBack_92 : decode cX12_goesBack 92 = .ok (.iconst 0, 1) := by decide +kernel
theorem dX12_goesBack_93 : decode cX12_goesBack 93 = .ok (.istore_n 1, 1) := by decide +kernel
theorem dX12_goesBack_94 : decode cX12_goesBack 94 = .ok (.iload_n 1, 1) := by decide +kernel
theorem dX12_goesBack_95 : decode cX12_goesBack 95 = .ok (.sipush 288, 3) := by decide +kernel
theorem dX12_goesBack_98 : decode cX12_goesBack 98 = .ok (.if_icmp .ge 21, 3) := by decide +kernel
theorem dX12_goesBack_101 : decode cX12_goesBack 101 = .ok (.aload_n 0, 1) := by decide +kernel
theorem dX12_goesBack_102 : decode cX12_goesBack 102 = .ok (.getfield 59, 3) := by decide +kernel
theorem dX12_goesBack_105 : decode cX12_goesBack 105 = .ok (.iload_n 1, 1) := by decide +kernel
theorem dX12_goesBack_106 : decode cX12_goesBack 106 = .ok (.aload_n 0, 1) := by decide +kernel
theorem dX12_goesBack_107 : decode cX12_goesBack 107 = .ok (.getfield 87, 3) := by decide +kernel
theorem dX12_goesBack_110 : decode cX12_goesBack 110 = .ok (.iload_n 1, 1) := by decide +kernel
theorem dX12_goesBack_111 : decode cX12_goesBack 111 = .ok (.baload, 1) := by decide +kernel
theorem dX12_goesBack_112 : decode cX12_goesBack 112 = .ok (.bastore, 1) := by decide +kernel
theorem dX12_goesBack_113 : decode cX12_goesBack 113 = .ok (.iinc 1 1, 3) := by decide +kernel
theorem dX12_goesBack_116 : decode cX12_goesBack 116 = .ok (.goto (-22), 3) := by decide +kernel
theorem dX12_goesBack_119 : decode cX12_goesBack 119 = .ok (.return_, 1) := by decide +kernel
theorem dX12_isMotion_0 : decode cX12_isMotion 0 = .ok (.iload_n 1, 1) := by decide +kernel
theorem dX12_isMotion_1 : decode cX12_isMotion 1 = .ok (.ifCond .lt 15, 3) := by decide +kernel
theorem dX12_isMotion_4 : decode cX12_isMotion 4 = .ok (.iload_n 1, 1) := by decide +kernel
theorem dX12_isMotion_5 : decode cX12_isMotion 5 = .ok (.aload_n 0, 1) := by decide +kernel
theorem dX12_isMotion_6 : decode cX12_isMotion 6 = .ok (.getfield 231, 3) := by decide +kernel
theorem dX12_isMotion_9 : decode cX12_isMotion 9 = .ok (.if_icmp .ge 7, 3) := by decide +kernel
theorem dX12_isMotion_12 : decode cX12_isMotion 12 = .ok (.iconst 1, 1) := by decide +kernel
theorem dX12_isMotion_13 : decode cX12_isMotion 13 = .ok (.goto 4, 3) := by decide +kernel
theorem dX12_isMotion_16 : decode cX12_isMotion 16 = .ok (.iconst 0, 1) := by decide +kernel
theorem dX12_isMotion_17 : decode cX12_isMotion 17 = .ok (.ireturn, 1) := by decide +kernel
theorem dX12_isMatter_0 : decode cX12_isMatter 0 = .ok (.aload_n 0, 1) := by decide +kernel
theorem dX12_isMatter_1 : decode cX12_isMatter 1 = .ok (.iload_n 1, 1) := by decide +kernel
theorem dX12_isMatter_2 : decode cX12_isMatter 2 = .ok (.invokevirtual 234, 3) := by decide +kernel
theorem dX12_isMatter_5 : decode cX12_isMatter 5 = .ok (.ifCond .ne 41, 3) := by decide +kernel
theorem dX12_isMatter_8 : decode cX12_isMatter 8 = .ok (.iload_n 1, 1) := by decide +kernel
theorem dX12_isMatter_9 : decode cX12_isMatter 9 = .ok (.bipush 100, 2) := by decide +kernel
theorem dX12_isMatter_11 : decode cX12_isMatter 11 = .ok (.bipush 100, 2) := by decide +kernel
theorem dX12_isMatter_13 : decode cX12_isMatter 13 = .ok (.aload_n 0, 1) := by decide +kernel
theorem dX12_isMatter_14 : decode cX12_isMatter 14 = .ok (.getfield 237, 3) := by decide +kernel
theorem dX12_isMatter_17 : decode cX12_isMatter 17 = .ok (.iadd, 1) := by decide +kernel
theorem dX12_isMatter_18 : decode cX12_isMatter 18 = .ok (.iconst 1, 1) := by decide +kernel
theorem dX12_isMatter_19 : decode cX12_isMatter 19 = .ok (.isub, 1) := by decide +kernel
theorem dX12_isMatter_20 : decode cX12_isMatter 20 = .ok (.invokestatic 215, 3) := by decide +kernel
theorem dX12_isMatter_23 : decode cX12_isMatter 23 = .ok (.ifCond .ne 23, 3) := by decide +kernel
theorem dX12_isMatter_26 : decode cX12_isMatter 26 = .ok (.iload_n 1, 1) := by decide +kernel
theorem dX12_isMatter_27 : decode cX12_isMatter 27 = .ok (.sipush 200, 3) := by decide +kernel
theorem dX12_isMatter_30 : decode cX12_isMatter 30 = .ok (.sipush 200, 3) := by decide +kernel
theorem dX12_isMatter_33 : decode cX12_isMatter 33 = .ok (.aload_n 0, 1) := by decide +kernel
theorem dX12_isMatter_34 : decode cX12_isMatter 34 = .ok (.getfield 240, 3) := by decide +kernel
theorem dX12_isMatter_37 : decode cX12_isMatter 37 = .ok (.iadd, 1) := by decide +kernel
theorem dX12_isMatter_38 : decode cX12_isMatter 38 = .ok (.iconst 1, 1) := by decide +kernel
theorem dX12_isMatter_39 : decode cX12_isMatter 39 = .ok (.isub, 1) := by decide +kernel
theorem dX12_isMatter_40 : decode cX12_isMatter 40 = .ok (.invokestatic 215, 3) := by decide +kernel
theorem dX12_isMatter_43 : decode cX12_isMatter 43 = .ok (.ifCond .eq 7, 3) := by decide +kernel
theorem dX12_isMatter_46 : decode cX12_isMatter 46 = .ok (.iconst 1, 1) := by decide +kernel
theorem dX12_isMatter_47 : decode cX12_isMatter 47 = .ok (.goto 4, 3) := by decide +kernel
theorem dX12_isMatter_50 : decode cX12_isMatter 50 = .ok (.iconst 0, 1) := by decide +kernel
theorem dX12_isMatter_51 : decode cX12_isMatter 51 = .ok (.ireturn, 1) := by decide +kernel
theorem dX12_howOf_0 : decode cX12_howOf 0 = .ok (.iload_n 1, 1) := by decide +kernel
theorem dX12_howOf_1 : decode cX12_howOf 1 = .ok (.bipush 100, 2) := by decide +kernel
theorem dX12_howOf_3 : decode cX12_howOf 3 = .ok (.if_icmp .ge 12, 3) := by decide +kernel
theorem dX12_howOf_6 : decode cX12_howOf 6 = .ok (.aload_n 0, 1) := by decide +kernel
theorem dX12_howOf_7 : decode cX12_howOf 7 = .ok (.getfield 44, 3) := by decide +kernel
theorem dX12_howOf_10 : decode cX12_howOf 10 = .ok (.iload_n 1, 1) := by decide +kernel
theorem dX12_howOf_11 : decode cX12_howOf 11 = .ok (.iaload, 1) := by decide +kernel
theorem dX12_howOf_12 : decode cX12_howOf 12 = .ok (.goto 32, 3) := by decide +kernel
theorem dX12_howOf_15 : decode cX12_howOf 15 = .ok (.iload_n 1, 1) := by decide +kernel
theorem dX12_howOf_16 : decode cX12_howOf 16 = .ok (.sipush 200, 3) := by decide +kernel
theorem dX12_howOf_19 : decode cX12_howOf 19 = .ok (.if_icmp .ge 15, 3) := by decide +kernel
theorem dX12_howOf_22 : decode cX12_howOf 22 = .ok (.aload_n 0, 1) := by decide +kernel
theorem dX12_howOf_23 : decode cX12_howOf 23 = .ok (.getfield 47, 3) := by decide +kernel
theorem dX12_howOf_26 : decode cX12_howOf 26 = .ok (.iload_n 1, 1) := by decide +kernel
theorem dX12_howOf_27 : decode cX12_howOf 27 = .ok (.bipush 100, 2) := by decide +kernel
theorem dX12_howOf_29 : decode cX12_howOf 29 = .ok (.isub, 1) := by decide +kernel
theorem dX12_howOf_30 : decode cX12_howOf 30 = .ok (.iaload, 1) := by decide +kernel
theorem dX12_howOf_31 : decode cX12_howOf 31 = .ok (.goto 13, 3) := by decide +kernel
theorem dX12_howOf_34 : decode cX12_howOf 34 = .ok (.aload_n 0, 1) := by decide +kernel
theorem dX12_howOf_35 : decode cX12_howOf 35 = .ok (.getfield 50, 3) := by decide +kernel
theorem dX12_howOf_38 : decode cX12_howOf 38 = .ok (.iload_n 1, 1) := by decide +kernel
theorem dX12_howOf_39 : decode cX12_howOf 39 = .ok (.sipush 200, 3) := by decide +kernel
theorem dX12_howOf_42 : decode cX12_howOf 42 = .ok (.isub, 1) := by decide +kernel
theorem dX12_howOf_43 : decode cX12_howOf 43 = .ok (.iaload, 1) := by decide +kernel
theorem dX12_howOf_44 : decode cX12_howOf 44 = .ok (.ireturn, 1) := by decide +kernel
theorem dX12_isOpen_0 : decode cX12_isOpen 0 = .ok (.aload_n 0, 1) := by decide +kernel
theorem dX12_isOpen_1 : decode cX12_isOpen 1 = .ok (.iload_n 1, 1) := by decide +kernel
theorem dX12_isOpen_2 : decode cX12_isOpen 2 = .ok (.invokevirtual 234, 3) := by decide +kernel
theorem dX12_isOpen_5 : decode cX12_isOpen 5 = .ok (.ifCond .eq 16, 3) := by decide +kernel
theorem dX12_isOpen_8 : decode cX12_isOpen 8 = .ok (.aload_n 0, 1) := by decide +kernel
theorem dX12_isOpen_9 : decode cX12_isOpen 9 = .ok (.getfield 44, 3) := by decide +kernel
theorem dX12_isOpen_12 : decode cX12_isOpen 12 = .ok (.iload_n 1, 1) := by decide +kernel
theorem dX12_isOpen_13 : decode cX12_isOpen 13 = .ok (.iaload, 1) := by decide +kernel
theorem dX12_isOpen_14 : decode cX12_isOpen 14 = .ok (.ifCond .ne 7, 3) := by decide +kernel
theorem dX12_isOpen_17 : decode cX12_isOpen 17 = .ok (.iconst 1, 1) := by decide +kernel
theorem dX12_isOpen_18 : decode cX12_isOpen 18 = .ok (.goto 4, 3) := by decide +kernel
theorem dX12_isOpen_21 : decode cX12_isOpen 21 = .ok (.iconst 0, 1) := by decide +kernel
theorem dX12_isOpen_22 : decode cX12_isOpen 22 = .ok (.ireturn, 1) := by decide +kernel
theorem dX12_how_0 : decode cX12_how 0 = .ok (.aload_n 0, 1) := by decide +kernel
theorem dX12_how_1 : decode cX12_how 1 = .ok (.iconst 0, 1) := by decide +kernel
theorem dX12_how_2 : decode cX12_how 2 = .ok (.putfield 1, 3) := by decide +kernel
theorem dX12_how_5 : decode cX12_how 5 = .ok (.aload_n 0, 1) := by decide +kernel
theorem dX12_how_6 : decode cX12_how 6 = .ok (.iload_n 1, 1) := by decide +kernel
theorem dX12_how_7 : decode cX12_how 7 = .ok (.invokevirtual 243, 3) := by decide +kernel
theorem dX12_how_10 : decode cX12_how 10 = .ok (.ifCond .eq 11, 3) := by decide +kernel
theorem dX12_how_13 : decode cX12_how 13 = .ok (.aload_n 0, 1) := by decide +kernel
theorem dX12_how_14 : decode cX12_how 14 = .ok (.iload_n 1, 1) := by decide +kernel
theorem dX12_how_15 : decode cX12_how 15 = .ok (.invokevirtual 246, 3) := by decide +kernel
theorem dX12_how_18 : decode cX12_how 18 = .ok (.goto 4, 3) := by decide +kernel
theorem dX12_how_21 : decode cX12_how 21 = .ok (.iconst (-1), 1) := by decide +kernel
theorem dX12_how_22 : decode cX12_how 22 = .ok (.ireturn, 1) := by decide +kernel
theorem dX12_line_0 : decode cX12_line 0 = .ok (.aload_n 0, 1) := by decide +kernel
theorem dX12_line_1 : decode cX12_line 1 = .ok (.iconst 0, 1) := by decide +kernel
theorem dX12_line_2 : decode cX12_line 2 = .ok (.putfield 1, 3) := by decide +kernel
theorem dX12_line_5 : decode cX12_line 5 = .ok (.aload_n 0, 1) := by decide +kernel
theorem dX12_line_6 : decode cX12_line 6 = .ok (.iload_n 1, 1) := by decide +kernel
theorem dX12_line_7 : decode cX12_line 7 = .ok (.invokevirtual 234, 3) := by decide +kernel
theorem dX12_line_10 : decode cX12_line 10 = .ok (.ifCond .eq 26, 3) := by decide +kernel
theorem dX12_line_13 : decode cX12_line 13 = .ok (.iload_n 2, 1) := by decide +kernel
theorem dX12_line_14 : decode cX12_line 14 = .ok (.ifCond .lt 22, 3) := by decide +kernel
theorem dX12_line_17 : decode cX12_line 17 = .ok (.iload_n 2, 1) := by decide +kernel
theorem dX12_line_18 : decode cX12_line 18 = .ok (.aload_n 0, 1) := by decide +kernel
theorem dX12_line_19 : decode cX12_line 19 = .ok (.getfield 53, 3) := by decide +kernel
theorem dX12_line_22 : decode cX12_line 22 = .ok (.iload_n 1, 1) := by decide +kernel
theorem dX12_line_23 : decode cX12_line 23 = .ok (.iaload, 1) := by decide +kernel
theorem dX12_line_24 : decode cX12_line 24 = .ok (.if_icmp .ge 12, 3) := by decide +kernel
theorem dX12_line_27 : decode cX12_line 27 = .ok (.iload_n 3, 1) := by decide +kernel
theorem dX12_line_28 : decode cX12_line 28 = .ok (.iconst 0, 1) := by decide +kernel
theorem dX12_line_29 : decode cX12_line 29 = .ok (.iconst 2, 1) := by decide +kernel
theorem dX12_line_30 : decode cX12_line 30 = .ok (.invokestatic 215, 3) := by decide +kernel
theorem dX12_line_33 : decode cX12_line 33 = .ok (.ifCond .ne 13, 3) := by decide +kernel
theorem dX12_line_36 : decode cX12_line 36 = .ok (.iload_n 3, 1) := by decide +kernel
theorem dX12_line_37 : decode cX12_line 37 = .ok (.ifCond .ne 7, 3) := by decide +kernel
theorem dX12_line_40 : decode cX12_line 40 = .ok (.iconst 0, 1) := by decide +kernel
theorem dX12_line_41 : decode cX12_line 41 = .ok (.goto 4, 3) := by decide +kernel
theorem dX12_line_44 : decode cX12_line 44 = .ok (.iconst (-1), 1) := by decide +kernel
theorem dX12_line_45 : decode cX12_line 45 = .ok (.ireturn, 1) := by decide +kernel
theorem dX12_line_46 : decode cX12_line 46 = .ok (.bipush 12, 2) := by decide +kernel
theorem dX12_line_48 : decode cX12_line 48 = .ok (.iload_n 1, 1) := by decide +kernel
theorem dX12_line_49 : decode cX12_line 49 = .ok (.imul, 1) := by decide +kernel
theorem dX12_line_50 : decode cX12_line 50 = .ok (.iload_n 2, 1) := by decide +kernel
theorem dX12_line_51 : decode cX12_line 51 = .ok (.iadd, 1) := by decide +kernel
theorem dX12_line_52 : decode cX12_line 52 = .ok (.istore 4, 2) := by decide +kernel
theorem dX12_line_54 : decode cX12_line 54 = .ok (.iload_n 3, 1) := by decide +kernel
theorem dX12_line_55 : decode cX12_line 55 = .ok (.ifCond .ne 13, 3) := by decide +kernel
theorem dX12_line_58 : decode cX12_line 58 = .ok (.aload_n 0, 1) := by decide +kernel
theorem dX12_line_59 : decode cX12_line 59 = .ok (.getfield 56, 3) := by decide +kernel
theorem dX12_line_62 : decode cX12_line 62 = .ok (.iload 4, 2) := by decide +kernel
theorem dX12_line_64 : decode cX12_line 64 = .ok (.iaload, 1) := by decide +kernel
theorem dX12_line_65 : decode cX12_line 65 = .ok (.goto 33, 3) := by decide +kernel
theorem dX12_line_68 : decode cX12_line 68 = .ok (.iload_n 3, 1) := by decide +kernel
theorem dX12_line_69 : decode cX12_line 69 = .ok (.iconst 1, 1) := by decide +kernel
theorem dX12_line_70 : decode cX12_line 70 = .ok (.if_icmp .ne 21, 3) := by decide +kernel
theorem dX12_line_73 : decode cX12_line 73 = .ok (.aload_n 0, 1) := by decide +kernel
theorem dX12_line_74 : decode cX12_line 74 = .ok (.getfield 59, 3) := by decide +kernel
theorem dX12_line_77 : decode cX12_line 77 = .ok (.iload 4, 2) := by decide +kernel
theorem dX12_line_79 : decode cX12_line 79 = .ok (.baload, 1) := by decide +kernel
theorem dX12_line_80 : decode cX12_line 80 = .ok (.ifCond .eq 7, 3) := by decide +kernel
theorem dX12_line_83 : decode cX12_line 83 = .ok (.iconst 1, 1) := by decide +kernel
theorem dX12_line_84 : decode cX12_line 84 = .ok (.goto 14, 3) := by decide +kernel
theorem dX12_line_87 : decode cX12_line 87 = .ok (.iconst 0, 1) := by decide +kernel
theorem dX12_line_88 : decode cX12_line 88 = .ok (.goto 10, 3) := by decide +kernel
theorem dX12_line_91 : decode cX12_line 91 = .ok (.aload_n 0, 1) := by decide +kernel
theorem dX12_line_92 : decode cX12_line 92 = .ok (.getfield 63, 3) := by decide +kernel
theorem dX12_line_95 : decode cX12_line 95 = .ok (.iload 4, 2) := by decide +kernel
theorem dX12_line_97 : decode cX12_line 97 = .ok (.iaload, 1) := by decide +kernel
theorem dX12_line_98 : decode cX12_line 98 = .ok (.ireturn, 1) := by decide +kernel
theorem dX12_stands_0 : decode cX12_stands 0 = .ok (.aload_n 0, 1) := by decide +kernel
theorem dX12_stands_1 : decode cX12_stands 1 = .ok (.iconst 0, 1) := by decide +kernel
theorem dX12_stands_2 : decode cX12_stands 2 = .ok (.putfield 1, 3) := by decide +kernel
theorem dX12_stands_5 : decode cX12_stands 5 = .ok (.iload_n 1, 1) := by decide +kernel
theorem dX12_stands_6 : decode cX12_stands 6 = .ok (.iconst 1, 1) := by decide +kernel
theorem dX12_stands_7 : decode cX12_stands 7 = .ok (.bipush 60, 2) := by decide +kernel
theorem dX12_stands_9 : decode cX12_stands 9 = .ok (.invokestatic 215, 3) := by decide +kernel
theorem dX12_stands_12 : decode cX12_stands 12 = .ok (.ifCond .eq 12, 3) := by decide +kernel
theorem dX12_stands_15 : decode cX12_stands 15 = .ok (.aload_n 0, 1) := by decide +kernel
theorem dX12_stands_16 : decode cX12_stands 16 = .ok (.getfield 66, 3) := by decide +kernel
theorem dX12_stands_19 : decode cX12_stands 19 = .ok (.iload_n 1, 1) := by decide +kernel
theorem dX12_stands_20 : decode cX12_stands 20 = .ok (.iaload, 1) := by decide +kernel
theorem dX12_stands_21 : decode cX12_stands 21 = .ok (.goto 5, 3) := by decide +kernel
theorem dX12_stands_24 : decode cX12_stands 24 = .ok (.bipush (-2), 2) := by decide +kernel
theorem dX12_stands_26 : decode cX12_stands 26 = .ok (.ireturn, 1) := by decide +kernel
theorem dX12_tells_0 : decode cX12_tells 0 = .ok (.aload_n 0, 1) := by decide +kernel
theorem dX12_tells_1 : decode cX12_tells 1 = .ok (.getfield 250, 3) := by decide +kernel
theorem dX12_tells_4 : decode cX12_tells 4 = .ok (.sipush 600, 3) := by decide +kernel
theorem dX12_tells_7 : decode cX12_tells 7 = .ok (.if_icmp .ne 5, 3) := by decide +kernel
theorem dX12_tells_10 : decode cX12_tells 10 = .ok (.iconst 0, 1) := by decide +kernel
theorem dX12_tells_11 : decode cX12_tells 11 = .ok (.ireturn, 1) := by decide +kernel
theorem dX12_tells_12 : decode cX12_tells 12 = .ok (.aload_n 0, 1) := by decide +kernel
theorem dX12_tells_13 : decode cX12_tells 13 = .ok (.getfield 96, 3) := by decide +kernel
theorem dX12_tells_16 : decode cX12_tells 16 = .ok (.aload_n 0, 1) := by decide +kernel
theorem dX12_tells_17 : decode cX12_tells 17 = .ok (.getfield 250, 3) := by decide +kernel
theorem dX12_tells_20 : decode cX12_tells 20 = .ok (.iload_n 1, 1) := by decide +kernel
theorem dX12_tells_21 : decode cX12_tells 21 = .ok (.iastore, 1) := by decide +kernel
theorem dX12_tells_22 : decode cX12_tells 22 = .ok (.aload_n 0, 1) := by decide +kernel
theorem dX12_tells_23 : decode cX12_tells 23 = .ok (.getfield 99, 3) := by decide +kernel
theorem dX12_tells_26 : decode cX12_tells 26 = .ok (.aload_n 0, 1) := by decide +kernel
theorem dX12_tells_27 : decode cX12_tells 27 = .ok (.getfield 250, 3) := by decide +kernel
theorem dX12_tells_30 : decode cX12_tells 30 = .ok (.iload_n 2, 1) := by decide +kernel
theorem dX12_tells_31 : decode cX12_tells 31 = .ok (.iastore, 1) := by decide +kernel
theorem dX12_tells_32 : decode cX12_tells 32 = .ok (.aload_n 0, 1) := by decide +kernel
theorem dX12_tells_33 : decode cX12_tells 33 = .ok (.getfield 102, 3) := by decide +kernel
theorem dX12_tells_36 : decode cX12_tells 36 = .ok (.aload_n 0, 1) := by decide +kernel
theorem dX12_tells_37 : decode cX12_tells 37 = .ok (.getfield 250, 3) := by decide +kernel
theorem dX12_tells_40 : decode cX12_tells 40 = .ok (.iload_n 3, 1) := by decide +kernel
theorem dX12_tells_41 : decode cX12_tells 41 = .ok (.iastore, 1) := by decide +kernel
theorem dX12_tells_42 : decode cX12_tells 42 = .ok (.aload_n 0, 1) := by decide +kernel
theorem dX12_tells_43 : decode cX12_tells 43 = .ok (.getfield 105, 3) := by decide +kernel
theorem dX12_tells_46 : decode cX12_tells 46 = .ok (.aload_n 0, 1) := by decide +kernel
theorem dX12_tells_47 : decode cX12_tells 47 = .ok (.getfield 250, 3) := by decide +kernel
theorem dX12_tells_50 : decode cX12_tells 50 = .ok (.iload 4, 2) := by decide +kernel
theorem dX12_tells_52 : decode cX12_tells 52 = .ok (.iastore, 1) := by decide +kernel
theorem dX12_tells_53 : decode cX12_tells 53 = .ok (.aload_n 0, 1) := by decide +kernel
theorem dX12_tells_54 : decode cX12_tells 54 = .ok (.getfield 108, 3) := by decide +kernel
theorem dX12_tells_57 : decode cX12_tells 57 = .ok (.aload_n 0, 1) := by decide +kernel
theorem dX12_tells_58 : decode cX12_tells 58 = .ok (.getfield 250, 3) := by decide +kernel
theorem dX12_tells_61 : decode cX12_tells 61 = .ok (.aload_n 0, 1) := by decide +kernel
theorem dX12_tells_62 : decode cX12_tells 62 = .ok (.getfield 212, 3) := by decide +kernel
theorem dX12_tells_65 : decode cX12_tells 65 = .ok (.iastore, 1) := by decide +kernel
theorem dX12_tells_66 : decode cX12_tells 66 = .ok (.aload_n 0, 1) := by decide +kernel
theorem dX12_tells_67 : decode cX12_tells 67 = .ok (.dup, 1) := by decide +kernel
theorem dX12_tells_68 : decode cX12_tells 68 = .ok (.getfield 250, 3) := by decide +kernel
theorem dX12_tells_71 : decode cX12_tells 71 = .ok (.iconst 1, 1) := by decide +kernel
theorem dX12_tells_72 : decode cX12_tells 72 = .ok (.iadd, 1) := by decide +kernel
theorem dX12_tells_73 : decode cX12_tells 73 = .ok (.putfield 250, 3) := by decide +kernel
theorem dX12_tells_76 : decode cX12_tells 76 = .ok (.iconst 1, 1) := by decide +kernel
theorem dX12_tells_77 : decode cX12_tells 77 = .ok (.ireturn, 1) := by decide +kernel
theorem dX12_toldBy_0 : decode cX12_toldBy 0 = .ok (.aload_n 0, 1) := by decide +kernel
theorem dX12_toldBy_1 : decode cX12_toldBy 1 = .ok (.getfield 250, 3) := by decide +kernel
theorem dX12_toldBy_4 : decode cX12_toldBy 4 = .ok (.iconst 1, 1) := by decide +kernel
theorem dX12_toldBy_5 : decode cX12_toldBy 5 = .ok (.isub, 1) := by decide +kernel
theorem dX12_toldBy_6 : decode cX12_toldBy 6 = .ok (.istore 6, 2) := by decide +kernel
theorem dX12_toldBy_8 : decode cX12_toldBy 8 = .ok (.iload 6, 2) := by decide +kernel
theorem dX12_toldBy_10 : decode cX12_toldBy 10 = .ok (.ifCond .lt 62, 3) := by decide +kernel
theorem dX12_toldBy_13 : decode cX12_toldBy 13 = .ok (.aload_n 0, 1) := by decide +kernel
theorem dX12_toldBy_14 : decode cX12_toldBy 14 = .ok (.getfield 96, 3) := by decide +kernel
theorem dX12_toldBy_17 : decode cX12_toldBy 17 = .ok (.iload 6, 2) := by decide +kernel
theorem dX12_toldBy_19 : decode cX12_toldBy 19 = .ok (.iaload, 1) := by decide +kernel
theorem dX12_toldBy_20 : decode cX12_toldBy 20 = .ok (.iload_n 1, 1) := by decide +kernel
theorem dX12_toldBy_21 : decode cX12_toldBy 21 = .ok (.if_icmp .ne 45, 3) := by decide +kernel
theorem dX12_toldBy_24 : decode cX12_toldBy 24 = .ok (.aload_n 0, 1) := by decide +kernel
theorem dX12_toldBy_25 : decode cX12_toldBy 25 = .ok (.getfield 99, 3) := by decide +kernel
theorem dX12_toldBy_28 : decode cX12_toldBy 28 = .ok (.iload 6, 2) := by decide +kernel
theorem dX12_toldBy_30 : decode cX12_toldBy 30 = .ok (.iaload, 1) := by decide +kernel
theorem dX12_toldBy_31 : decode cX12_toldBy 31 = .ok (.iload_n 2, 1) := by decide +kernel
theorem dX12_toldBy_32 : decode cX12_toldBy 32 = .ok (.if_icmp .ne 34, 3) := by decide +kernel
theorem dX12_toldBy_35 : decode cX12_toldBy 35 = .ok (.aload_n 0, 1) := by decide +kernel
theorem dX12_toldBy_36 : decode cX12_toldBy 36 = .ok (.getfield 102, 3) := by decide +kernel
theorem dX12_toldBy_39 : decode cX12_toldBy 39 = .ok (.iload 6, 2) := by decide +kernel
theorem dX12_toldBy_41 : decode cX12_toldBy 41 = .ok (.iaload, 1) := by decide +kernel
theorem dX12_toldBy_42 : decode cX12_toldBy 42 = .ok (.iload_n 3, 1) := by decide +kernel
theorem dX12_toldBy_43 : decode cX12_toldBy 43 = .ok (.if_icmp .ne 23, 3) := by decide +kernel
theorem dX12_toldBy_46 : decode cX12_toldBy 46 = .ok (.aload_n 0, 1) := by decide +kernel
theorem dX12_toldBy_47 : decode cX12_toldBy 47 = .ok (.getfield 108, 3) := by decide +kernel
theorem dX12_toldBy_50 : decode cX12_toldBy 50 = .ok (.iload 6, 2) := by decide +kernel
theorem dX12_toldBy_52 : decode cX12_toldBy 52 = .ok (.iaload, 1) := by decide +kernel
theorem dX12_toldBy_53 : decode cX12_toldBy 53 = .ok (.iload 4, 2) := by decide +kernel
theorem dX12_toldBy_55 : decode cX12_toldBy 55 = .ok (.if_icmp .gt 11, 3) := by decide +kernel
theorem dX12_toldBy_58 : decode cX12_toldBy 58 = .ok (.aload_n 0, 1) := by decide +kernel
theorem dX12_toldBy_59 : decode cX12_toldBy 59 = .ok (.getfield 105, 3) := by decide +kernel
theorem dX12_toldBy_62 : decode cX12_toldBy 62 = .ok (.iload 6, 2) := by decide +kernel
theorem dX12_toldBy_64 : decode cX12_toldBy 64 = .ok (.iaload, 1) := by decide +kernel
theorem dX12_toldBy_65 : decode cX12_toldBy 65 = .ok (.ireturn, 1) := by decide +kernel
theorem dX12_toldBy_66 : decode cX12_toldBy 66 = .ok (.iinc 6 (-1), 3) := by decide +kernel
theorem dX12_toldBy_69 : decode cX12_toldBy 69 = .ok (.goto (-61), 3) := by decide +kernel
theorem dX12_toldBy_72 : decode cX12_toldBy 72 = .ok (.iload 5, 2) := by decide +kernel
theorem dX12_toldBy_74 : decode cX12_toldBy 74 = .ok (.ireturn, 1) := by decide +kernel
theorem dX12_heads_0 : decode cX12_heads 0 = .ok (.aload_n 0, 1) := by decide +kernel
theorem dX12_heads_1 : decode cX12_heads 1 = .ok (.iconst 0, 1) := by decide +kernel
theorem dX12_heads_2 : decode cX12_heads 2 = .ok (.putfield 1, 3) := by decide +kernel
theorem dX12_heads_5 : decode cX12_heads 5 = .ok (.aload_n 0, 1) := by decide +kernel
theorem dX12_heads_6 : decode cX12_heads 6 = .ok (.iload_n 1, 1) := by decide +kernel
theorem dX12_heads_7 : decode cX12_heads 7 = .ok (.invokevirtual 219, 3) := by decide +kernel
theorem dX12_heads_10 : decode cX12_heads 10 = .ok (.ifCond .eq 29, 3) := by decide +kernel
theorem dX12_heads_13 : decode cX12_heads 13 = .ok (.iload_n 2, 1) := by decide +kernel
theorem dX12_heads_14 : decode cX12_heads 14 = .ok (.iconst 0, 1) := by decide +kernel
theorem dX12_heads_15 : decode cX12_heads 15 = .ok (.sipush 9999, 3) := by decide +kernel
theorem dX12_heads_18 : decode cX12_heads 18 = .ok (.invokestatic 215, 3) := by decide +kernel
theorem dX12_heads_21 : decode cX12_heads 21 = .ok (.ifCond .eq 18, 3) := by decide +kernel
theorem dX12_heads_24 : decode cX12_heads 24 = .ok (.aload_n 0, 1) := by decide +kernel
theorem dX12_heads_25 : decode cX12_heads 25 = .ok (.iconst 0, 1) := by decide +kernel
theorem dX12_heads_26 : decode cX12_heads 26 = .ok (.iload_n 1, 1) := by decide +kernel
theorem dX12_heads_27 : decode cX12_heads 27 = .ok (.iconst 0, 1) := by decide +kernel
theorem dX12_heads_28 : decode cX12_heads 28 = .ok (.iload_n 2, 1) := by decide +kernel
theorem dX12_heads_29 : decode cX12_heads 29 = .ok (.invokevirtual 253, 3) := by decide +kernel
theorem dX12_heads_32 : decode cX12_heads 32 = .ok (.ifCond .eq 7, 3) := by decide +kernel
theorem dX12_heads_35 : decode cX12_heads 35 = .ok (.iconst 1, 1) := by decide +kernel
theorem dX12_heads_36 : decode cX12_heads 36 = .ok (.goto 4, 3) := by decide +kernel
theorem dX12_heads_39 : decode cX12_heads 39 = .ok (.iconst 0, 1) := by decide +kernel
theorem dX12_heads_40 : decode cX12_heads 40 = .ok (.ireturn, 1) := by decide +kernel
theorem dX12_dues_0 : decode cX12_dues 0 = .ok (.aload_n 0, 1) := by decide +kernel
theorem dX12_dues_1 : decode cX12_dues 1 = .ok (.iconst 0, 1) := by decide +kernel
theorem dX12_dues_2 : decode cX12_dues 2 = .ok (.putfield 1, 3) := by decide +kernel
theorem dX12_dues_5 : decode cX12_dues 5 = .ok (.aload_n 0, 1) := by decide +kernel
theorem dX12_dues_6 : decode cX12_dues 6 = .ok (.iload_n 1, 1) := by decide +kernel
theorem dX12_dues_7 : decode cX12_dues 7 = .ok (.invokevirtual 219, 3) := by decide +kernel
theorem dX12_dues_10 : decode cX12_dues 10 = .ok (.ifCond .eq 29, 3) := by decide +kernel
theorem dX12_dues_13 : decode cX12_dues 13 = .ok (.iload_n 2, 1) := by decide +kernel
theorem dX12_dues_14 : decode cX12_dues 14 = .ok (.iconst 0, 1) := by decide +kernel
theorem dX12_dues_15 : decode cX12_dues 15 = .ok (.ldc_w 257, 3) := by decide +kernel
theorem dX12_dues_18 : decode cX12_dues 18 = .ok (.invokestatic 215, 3) := by decide +kernel
theorem dX12_dues_21 : decode cX12_dues 21 = .ok (.ifCond .eq 18, 3) := by decide +kernel
theorem dX12_dues_24 : decode cX12_dues 24 = .ok (.aload_n 0, 1) := by decide +kernel
theorem dX12_dues_25 : decode cX12_dues 25 = .ok (.iconst 1, 1) := by decide +kernel
theorem dX12_dues_26 : decode cX12_dues 26 = .ok (.iload_n 1, 1) := by decide +kernel
theorem dX12_dues_27 : decode cX12_dues 27 = .ok (.iconst 0, 1) := by decide +kernel
theorem dX12_dues_28 : decode cX12_dues 28 = .ok (.iload_n 2, 1) := by decide +kernel
theorem dX12_dues_29 : decode cX12_dues 29 = .ok (.invokevirtual 253, 3) := by decide +kernel
theorem dX12_dues_32 : decode cX12_dues 32 = .ok (.ifCond .eq 7, 3) := by decide +kernel
theorem dX12_dues_35 : decode cX12_dues 35 = .ok (.iconst 1, 1) := by decide +kernel
theorem dX12_dues_36 : decode cX12_dues 36 = .ok (.goto 4, 3) := by decide +kernel
theorem dX12_dues_39 : decode cX12_dues 39 = .ok (.iconst 0, 1) := by decide +kernel
theorem dX12_dues_40 : decode cX12_dues 40 = .ok (.ireturn, 1) := by decide +kernel
theorem dX12_mandate_0 : decode cX12_mandate 0 = .ok (.aload_n 0, 1) := by decide +kernel
theorem dX12_mandate_1 : decode cX12_mandate 1 = .ok (.iconst 0, 1) := by decide +kernel
theorem dX12_mandate_2 : decode cX12_mandate 2 = .ok (.putfield 1, 3) := by decide +kernel
theorem dX12_mandate_5 : decode cX12_mandate 5 = .ok (.iload_n 1, 1) := by decide +kernel
theorem dX12_mandate_6 : decode cX12_mandate 6 = .ok (.ifCond .lt 43, 3) := by decide +kernel
theorem dX12_mandate_9 : decode cX12_mandate 9 = .ok (.iload_n 1, 1) := by decide +kernel
theorem dX12_mandate_10 : decode cX12_mandate 10 = .ok (.aload_n 0, 1) := by decide +kernel
theorem dX12_mandate_11 : decode cX12_mandate 11 = .ok (.getfield 223, 3) := by decide +kernel
theorem dX12_mandate_14 : decode cX12_mandate 14 = .ok (.if_icmp .ge 35, 3) := by decide +kernel
theorem dX12_mandate_17 : decode cX12_mandate 17 = .ok (.aload_n 0, 1) := by decide +kernel
theorem dX12_mandate_18 : decode cX12_mandate 18 = .ok (.iload_n 2, 1) := by decide +kernel
theorem dX12_mandate_19 : decode cX12_mandate 19 = .ok (.invokevirtual 243, 3) := by decide +kernel
theorem dX12_mandate_22 : decode cX12_mandate 22 = .ok (.ifCond .eq 27, 3) := by decide +kernel
theorem dX12_mandate_25 : decode cX12_mandate 25 = .ok (.iload_n 3, 1) := by decide +kernel
theorem dX12_mandate_26 : decode cX12_mandate 26 = .ok (.iconst 0, 1) := by decide +kernel
theorem dX12_mandate_27 : decode cX12_mandate 27 = .ok (.iconst 2, 1) := by decide +kernel
theorem dX12_mandate_28 : decode cX12_mandate 28 = .ok (.invokestatic 215, 3) := by decide +kernel
theorem dX12_mandate_31 : decode cX12_mandate 31 = .ok (.ifCond .eq 18, 3) := by decide +kernel
theorem dX12_mandate_34 : decode cX12_mandate 34 = .ok (.aload_n 0, 1) := by decide +kernel
theorem dX12_mandate_35 : decode cX12_mandate 35 = .ok (.iconst 2, 1) := by decide +kernel
theorem dX12_mandate_36 : decode cX12_mandate 36 = .ok (.iload_n 1, 1) := by decide +kernel
theorem dX12_mandate_37 : decode cX12_mandate 37 = .ok (.iload_n 2, 1) := by decide +kernel
theorem dX12_mandate_38 : decode cX12_mandate 38 = .ok (.iload_n 3, 1) := by decide +kernel
theorem dX12_mandate_39 : decode cX12_mandate 39 = .ok (.invokevirtual 253, 3) := by decide +kernel
theorem dX12_mandate_42 : decode cX12_mandate 42 = .ok (.ifCond .eq 7, 3) := by decide +kernel
theorem dX12_mandate_45 : decode cX12_mandate 45 = .ok (.iconst 1, 1) := by decide +kernel
theorem dX12_mandate_46 : decode cX12_mandate 46 = .ok (.goto 4, 3) := by decide +kernel
theorem dX12_mandate_49 : decode cX12_mandate 49 = .ok (.iconst 0, 1) := by decide +kernel
theorem dX12_mandate_50 : decode cX12_mandate 50 = .ok (.ireturn, 1) := by decide +kernel
theorem dX12_mandateOf_0 : decode cX12_mandateOf 0 = .ok (.iconst 0, 1) := by decide +kernel
theorem dX12_mandateOf_1 : decode cX12_mandateOf 1 = .ok (.istore 4, 2) := by decide +kernel
theorem dX12_mandateOf_3 : decode cX12_mandateOf 3 = .ok (.iconst 0, 1) := by decide +kernel
theorem dX12_mandateOf_4 : decode cX12_mandateOf 4 = .ok (.istore 5, 2) := by decide +kernel
theorem dX12_mandateOf_6 : decode cX12_mandateOf 6 = .ok (.iload 5, 2) := by decide +kernel
theorem dX12_mandateOf_8 : decode cX12_mandateOf 8 = .ok (.aload_n 0, 1) := by decide +kernel
theorem dX12_mandateOf_9 : decode cX12_mandateOf 9 = .ok (.getfield 223, 3) := by decide +kernel
theorem dX12_mandateOf_12 : decode cX12_mandateOf 12 = .ok (.if_icmp .ge 73, 3) := by decide +kernel
theorem dX12_mandateOf_15 : decode cX12_mandateOf 15 = .ok (.aload_n 0, 1) := by decide +kernel
theorem dX12_mandateOf_16 : decode cX12_mandateOf 16 = .ok (.getfield 17, 3) := by decide +kernel
theorem dX12_mandateOf_19 : decode cX12_mandateOf 19 = .ok (.iload 5, 2) := by decide +kernel
theorem dX12_mandateOf_21 : decode cX12_mandateOf 21 = .ok (.iaload, 1) := by decide +kernel
theorem dX12_mandateOf_22 : decode cX12_mandateOf 22 = .ok (.iload_n 1, 1) := by decide +kernel
theorem dX12_mandateOf_23 : decode cX12_mandateOf 23 = .ok (.if_icmp .eq 6, 3) := by decide +kernel
theorem dX12_mandateOf_26 : decode cX12_mandateOf 26 = .ok (.goto 53, 3) := by decide +kernel
theorem dX12_mandateOf_29 : decode cX12_mandateOf 29 = .ok (.aload_n 0, 1) := by decide +kernel
theorem dX12_mandateOf_30 : decode cX12_mandateOf 30 = .ok (.iconst 2, 1) := by decide +kernel
theorem dX12_mandateOf_31 : decode cX12_mandateOf 31 = .ok (.iload 5, 2) := by decide +kernel
theorem dX12_mandateOf_33 : decode cX12_mandateOf 33 = .ok (.iload_n 2, 1) := by decide +kernel
theorem dX12_mandateOf_34 : decode cX12_mandateOf 34 = .ok (.iload_n 3, 1) := by decide +kernel
theorem dX12_mandateOf_35 : decode cX12_mandateOf 35 = .ok (.iconst 2, 1) := by decide +kernel
theorem dX12_mandateOf_36 : decode cX12_mandateOf 36 = .ok (.invokevirtual 258, 3) := by decide +kernel
theorem dX12_mandateOf_39 : decode cX12_mandateOf 39 = .ok (.istore 6, 2) := by decide +kernel
theorem dX12_mandateOf_41 : decode cX12_mandateOf 41 = .ok (.iload 4, 2) := by decide +kernel
theorem dX12_mandateOf_43 : decode cX12_mandateOf 43 = .ok (.iload 6, 2) := by decide +kernel
theorem dX12_mandateOf_45 : decode cX12_mandateOf 45 = .ok (.iconst 1, 1) := by decide +kernel
theorem dX12_mandateOf_46 : decode cX12_mandateOf 46 = .ok (.if_icmp .ne 13, 3) := by decide +kernel
theorem dX12_mandateOf_49 : decode cX12_mandateOf 49 = .ok (.aload_n 0, 1) := by decide +kernel
theorem dX12_mandateOf_50 : decode cX12_mandateOf 50 = .ok (.getfield 20, 3) := by decide +kernel
theorem dX12_mandateOf_53 : decode cX12_mandateOf 53 = .ok (.iload 5, 2) := by decide +kernel
theorem dX12_mandateOf_55 : decode cX12_mandateOf 55 = .ok (.iaload, 1) := by decide +kernel
theorem dX12_mandateOf_56 : decode cX12_mandateOf 56 = .ok (.goto 20, 3) := by decide +kernel
theorem dX12_mandateOf_59 : decode cX12_mandateOf 59 = .ok (.iload 6, 2) := by decide +kernel
theorem dX12_mandateOf_61 : decode cX12_mandateOf 61 = .ok (.ifCond .ne 14, 3) := by decide +kernel
theorem dX12_mandateOf_64 : decode cX12_mandateOf 64 = .ok (.aload_n 0, 1) := by decide +kernel
theorem dX12_mandateOf_65 : decode cX12_mandateOf 65 = .ok (.getfield 20, 3) := by decide +kernel
theorem dX12_mandateOf_68 : decode cX12_mandateOf 68 = .ok (.iload 5, 2) := by decide +kernel
theorem dX12_mandateOf_70 : decode cX12_mandateOf 70 = .ok (.iaload, 1) := by decide +kernel
theorem dX12_mandateOf_71 : decode cX12_mandateOf 71 = .ok (.ineg, 1) := by decide +kernel
theorem dX12_mandateOf_72 : decode cX12_mandateOf 72 = .ok (.goto 4, 3) := by decide +kernel
theorem dX12_mandateOf_75 : decode cX12_mandateOf 75 = .ok (.iconst 0, 1) := by decide +kernel
theorem dX12_mandateOf_76 : decode cX12_mandateOf 76 = .ok (.iadd, 1) := by decide +kernel
theorem dX12_mandateOf_77 : decode cX12_mandateOf 77 = .ok (.istore 4, 2) := by decide +kernel
theorem dX12_mandateOf_79 : decode cX12_mandateOf 79 = .ok (.iinc 5 1, 3) := by decide +kernel
theorem dX12_mandateOf_82 : decode cX12_mandateOf 82 = .ok (.goto (-76), 3) := by decide +kernel
theorem dX12_mandateOf_85 : decode cX12_mandateOf 85 = .ok (.iload 4, 2) := by decide +kernel
theorem dX12_mandateOf_87 : decode cX12_mandateOf 87 = .ok (.ifCond .le 7, 3) := by decide +kernel
theorem dX12_mandateOf_90 : decode cX12_mandateOf 90 = .ok (.iconst 1, 1) := by decide +kernel
theorem dX12_mandateOf_91 : decode cX12_mandateOf 91 = .ok (.goto 13, 3) := by decide +kernel
theorem dX12_mandateOf_94 : decode cX12_mandateOf 94 = .ok (.iload 4, 2) := by decide +kernel
theorem dX12_mandateOf_96 : decode cX12_mandateOf 96 = .ok (.ifCond .ge 7, 3) := by decide +kernel
theorem dX12_mandateOf_99 : decode cX12_mandateOf 99 = .ok (.iconst 0, 1) := by decide +kernel
theorem dX12_mandateOf_100 : decode cX12_mandateOf 100 = .ok (.goto 4, 3) := by decide +kernel
theorem dX12_mandateOf_103 : decode cX12_mandateOf 103 = .ok (.iconst 2, 1) := by decide +kernel
theorem dX12_mandateOf_104 : decode cX12_mandateOf 104 = .ok (.ireturn, 1) := by decide +kernel
theorem dX12_voiceOf_0 : decode cX12_voiceOf 0 = .ok (.aload_n 0, 1) := by decide +kernel
theorem dX12_voiceOf_1 : decode cX12_voiceOf 1 = .ok (.iconst 3, 1) := by decide +kernel
theorem dX12_voiceOf_2 : decode cX12_voiceOf 2 = .ok (.iload_n 1, 1) := by decide +kernel
theorem dX12_voiceOf_3 : decode cX12_voiceOf 3 = .ok (.iload_n 2, 1) := by decide +kernel
theorem dX12_voiceOf_4 : decode cX12_voiceOf 4 = .ok (.iload_n 3, 1) := by decide +kernel
theorem dX12_voiceOf_5 : decode cX12_voiceOf 5 = .ok (.iconst 3, 1) := by decide +kernel
theorem dX12_voiceOf_6 : decode cX12_voiceOf 6 = .ok (.invokevirtual 258, 3) := by decide +kernel
theorem dX12_voiceOf_9 : decode cX12_voiceOf 9 = .ok (.istore 4, 2) := by decide +kernel
theorem dX12_voiceOf_11 : decode cX12_voiceOf 11 = .ok (.iload 4, 2) := by decide +kernel
theorem dX12_voiceOf_13 : decode cX12_voiceOf 13 = .ok (.iconst 3, 1) := by decide +kernel
theorem dX12_voiceOf_14 : decode cX12_voiceOf 14 = .ok (.if_icmp .ne 13, 3) := by decide +kernel
theorem dX12_voiceOf_17 : decode cX12_voiceOf 17 = .ok (.aload_n 0, 1) := by decide +kernel
theorem dX12_voiceOf_18 : decode cX12_voiceOf 18 = .ok (.iload_n 1, 1) := by decide +kernel
theorem dX12_voiceOf_19 : decode cX12_voiceOf 19 = .ok (.iload_n 2, 1) := by decide +kernel
theorem dX12_voiceOf_20 : decode cX12_voiceOf 20 = .ok (.iload_n 3, 1) := by decide +kernel
theorem dX12_voiceOf_21 : decode cX12_voiceOf 21 = .ok (.invokevirtual 262, 3) := by decide +kernel
theorem dX12_voiceOf_24 : decode cX12_voiceOf 24 = .ok (.goto 5, 3) := by decide +kernel
theorem dX12_voiceOf_27 : decode cX12_voiceOf 27 = .ok (.iload 4, 2) := by decide +kernel
theorem dX12_voiceOf_29 : decode cX12_voiceOf 29 = .ok (.ireturn, 1) := by decide +kernel
theorem dX12_casts_0 : decode cX12_casts 0 = .ok (.aload_n 0, 1) := by decide +kernel
theorem dX12_casts_1 : decode cX12_casts 1 = .ok (.iconst 0, 1) := by decide +kernel
theorem dX12_casts_2 : decode cX12_casts 2 = .ok (.putfield 1, 3) := by decide +kernel
theorem dX12_casts_5 : decode cX12_casts 5 = .ok (.aload_n 0, 1) := by decide +kernel
theorem dX12_casts_6 : decode cX12_casts 6 = .ok (.iload_n 1, 1) := by decide +kernel
theorem dX12_casts_7 : decode cX12_casts 7 = .ok (.invokevirtual 219, 3) := by decide +kernel
theorem dX12_casts_10 : decode cX12_casts 10 = .ok (.ifCond .eq 28, 3) := by decide +kernel
theorem dX12_casts_13 : decode cX12_casts 13 = .ok (.aload_n 0, 1) := by decide +kernel
theorem dX12_casts_14 : decode cX12_casts 14 = .ok (.iload_n 2, 1) := by decide +kernel
theorem dX12_casts_15 : decode cX12_casts 15 = .ok (.invokevirtual 243, 3) := by decide +kernel
theorem dX12_casts_18 : decode cX12_casts 18 = .ok (.ifCond .eq 20, 3) := by decide +kernel
theorem dX12_casts_21 : decode cX12_casts 21 = .ok (.iload_n 3, 1) := by decide +kernel
theorem dX12_casts_22 : decode cX12_casts 22 = .ok (.iconst 0, 1) := by decide +kernel
theorem dX12_casts_23 : decode cX12_casts 23 = .ok (.iconst 3, 1) := by decide +kernel
theorem dX12_casts_24 : decode cX12_casts 24 = .ok (.invokestatic 215, 3) := by decide +kernel
theorem dX12_casts_27 : decode cX12_casts 27 = .ok (.ifCond .eq 11, 3) := by decide +kernel
theorem dX12_casts_30 : decode cX12_casts 30 = .ok (.aload_n 0, 1) := by decide +kernel
theorem dX12_casts_31 : decode cX12_casts 31 = .ok (.iload_n 2, 1) := by decide +kernel
theorem dX12_casts_32 : decode cX12_casts 32 = .ok (.invokevirtual 246, 3) := by decide +kernel
theorem dX12_casts_35 : decode cX12_casts 35 = .ok (.ifCond .eq 5, 3) := by decide +kernel
theorem dX12_casts_38 : decode cX12_casts 38 = .ok (.iconst 0, 1) := by decide +kernel
theorem dX12_casts_39 : decode cX12_casts 39 = .ok (.ireturn, 1) := by decide +kernel
theorem dX12_casts_40 : decode cX12_casts 40 = .ok (.aload_n 0, 1) := by decide +kernel
theorem dX12_casts_41 : decode cX12_casts 41 = .ok (.iload_n 1, 1) := by decide +kernel
theorem dX12_casts_42 : decode cX12_casts 42 = .ok (.iload_n 2, 1) := by decide +kernel
theorem dX12_casts_43 : decode cX12_casts 43 = .ok (.aload_n 0, 1) := by decide +kernel
theorem dX12_casts_44 : decode cX12_casts 44 = .ok (.getfield 212, 3) := by decide +kernel
theorem dX12_casts_47 : decode cX12_casts 47 = .ok (.invokevirtual 262, 3) := by decide +kernel
theorem dX12_casts_50 : decode cX12_casts 50 = .ok (.istore 4, 2) := by decide +kernel
theorem dX12_casts_52 : decode cX12_casts 52 = .ok (.iload_n 3, 1) := by decide +kernel
theorem dX12_casts_53 : decode cX12_casts 53 = .ok (.iconst 3, 1) := by decide +kernel
theorem dX12_casts_54 : decode cX12_casts 54 = .ok (.if_icmp .eq 24, 3) := by decide +kernel
theorem dX12_casts_57 : decode cX12_casts 57 = .ok (.aload_n 0, 1) := by decide +kernel
theorem dX12_casts_58 : decode cX12_casts 58 = .ok (.invokevirtual 266, 3) := by decide +kernel
theorem dX12_casts_61 : decode cX12_casts 61 = .ok (.ifCond .eq 17, 3) := by decide +kernel
theorem dX12_casts_64 : decode cX12_casts 64 = .ok (.iload 4, 2) := by decide +kernel
theorem dX12_casts_66 : decode cX12_casts 66 = .ok (.iconst 2, 1) := by decide +kernel
theorem dX12_casts_67 : decode cX12_casts 67 = .ok (.if_icmp .eq 11, 3) := by decide +kernel
theorem dX12_casts_70 : decode cX12_casts 70 = .ok (.iload 4, 2) := by decide +kernel
theorem dX12_casts_72 : decode cX12_casts 72 = .ok (.iload_n 3, 1) := by decide +kernel
theorem dX12_casts_73 : decode cX12_casts 73 = .ok (.if_icmp .eq 5, 3) := by decide +kernel
theorem dX12_casts_76 : decode cX12_casts 76 = .ok (.iconst 0, 1) := by decide +kernel
theorem dX12_casts_77 : decode cX12_casts 77 = .ok (.ireturn, 1) := by decide +kernel
theorem dX12_casts_78 : decode cX12_casts 78 = .ok (.aload_n 0, 1) := by decide +kernel
theorem dX12_casts_79 : decode cX12_casts 79 = .ok (.iconst 3, 1) := by decide +kernel
theorem dX12_casts_80 : decode cX12_casts 80 = .ok (.iload_n 1, 1) := by decide +kernel
theorem dX12_casts_81 : decode cX12_casts 81 = .ok (.iload_n 2, 1) := by decide +kernel
theorem dX12_casts_82 : decode cX12_casts 82 = .ok (.iload_n 3, 1) := by decide +kernel
theorem dX12_casts_83 : decode cX12_casts 83 = .ok (.invokevirtual 253, 3) := by decide +kernel
theorem dX12_casts_86 : decode cX12_casts 86 = .ok (.ireturn, 1) := by decide +kernel
theorem dX12_voice_0 : decode cX12_voice 0 = .ok (.aload_n 0, 1) := by decide +kernel
theorem dX12_voice_1 : decode cX12_voice 1 = .ok (.iconst 0, 1) := by decide +kernel
theorem dX12_voice_2 : decode cX12_voice 2 = .ok (.putfield 1, 3) := by decide +kernel
theorem dX12_voice_5 : decode cX12_voice 5 = .ok (.aload_n 0, 1) := by decide +kernel
theorem dX12_voice_6 : decode cX12_voice 6 = .ok (.iload_n 1, 1) := by decide +kernel
theorem dX12_voice_7 : decode cX12_voice 7 = .ok (.invokevirtual 219, 3) := by decide +kernel
theorem dX12_voice_10 : decode cX12_voice 10 = .ok (.ifCond .eq 29, 3) := by decide +kernel
theorem dX12_voice_13 : decode cX12_voice 13 = .ok (.aload_n 0, 1) := by decide +kernel
theorem dX12_voice_14 : decode cX12_voice 14 = .ok (.iload_n 2, 1) := by decide +kernel
theorem dX12_voice_15 : decode cX12_voice 15 = .ok (.invokevirtual 243, 3) := by decide +kernel
theorem dX12_voice_18 : decode cX12_voice 18 = .ok (.ifCond .eq 21, 3) := by decide +kernel
theorem dX12_voice_21 : decode cX12_voice 21 = .ok (.aload_n 0, 1) := by decide +kernel
theorem dX12_voice_22 : decode cX12_voice 22 = .ok (.iload_n 3, 1) := by decide +kernel
theorem dX12_voice_23 : decode cX12_voice 23 = .ok (.invokevirtual 270, 3) := by decide +kernel
theorem dX12_voice_26 : decode cX12_voice 26 = .ok (.ifCond .eq 13, 3) := by decide +kernel
theorem dX12_voice_29 : decode cX12_voice 29 = .ok (.iload 4, 2) := by decide +kernel
theorem dX12_voice_31 : decode cX12_voice 31 = .ok (.iconst 0, 1) := by decide +kernel
theorem dX12_voice_32 : decode cX12_voice 32 = .ok (.iconst 1, 1) := by decide +kernel
theorem dX12_voice_33 : decode cX12_voice 33 = .ok (.invokestatic 215, 3) := by decide +kernel
theorem dX12_voice_36 : decode cX12_voice 36 = .ok (.ifCond .ne 5, 3) := by decide +kernel
theorem dX12_voice_39 : decode cX12_voice 39 = .ok (.iconst (-1), 1) := by decide +kernel
theorem dX12_voice_40 : decode cX12_voice 40 = .ok (.ireturn, 1) := by decide +kernel
theorem dX12_voice_41 : decode cX12_voice 41 = .ok (.iload 4, 2) := by decide +kernel
theorem dX12_voice_43 : decode cX12_voice 43 = .ok (.ifCond .ne 13, 3) := by decide +kernel
theorem dX12_voice_46 : decode cX12_voice 46 = .ok (.aload_n 0, 1) := by decide +kernel
theorem dX12_voice_47 : decode cX12_voice 47 = .ok (.iload_n 1, 1) := by decide +kernel
theorem dX12_voice_48 : decode cX12_voice 48 = .ok (.iload_n 2, 1) := by decide +kernel
theorem dX12_voice_49 : decode cX12_voice 49 = .ok (.iload_n 3, 1) := by decide +kernel
theorem dX12_voice_50 : decode cX12_voice 50 = .ok (.invokevirtual 273, 3) := by decide +kernel
theorem dX12_voice_53 : decode cX12_voice 53 = .ok (.goto 10, 3) := by decide +kernel
theorem dX12_voice_56 : decode cX12_voice 56 = .ok (.aload_n 0, 1) := by decide +kernel
theorem dX12_voice_57 : decode cX12_voice 57 = .ok (.iload_n 1, 1) := by decide +kernel
theorem dX12_voice_58 : decode cX12_voice 58 = .ok (.iload_n 2, 1) := by decide +kernel
theorem dX12_voice_59 : decode cX12_voice 59 = .ok (.iload_n 3, 1) := by decide +kernel
theorem dX12_voice_60 : decode cX12_voice 60 = .ok (.invokevirtual 262, 3) := by decide +kernel
theorem dX12_voice_63 : decode cX12_voice 63 = .ok (.ireturn, 1) := by decide +kernel
theorem dX12_broken_0 : decode cX12_broken 0 = .ok (.aload_n 0, 1) := by decide +kernel
theorem dX12_broken_1 : decode cX12_broken 1 = .ok (.iconst 0, 1) := by decide +kernel
theorem dX12_broken_2 : decode cX12_broken 2 = .ok (.putfield 1, 3) := by decide +kernel
theorem dX12_broken_5 : decode cX12_broken 5 = .ok (.aload_n 0, 1) := by decide +kernel
theorem dX12_broken_6 : decode cX12_broken 6 = .ok (.iload_n 1, 1) := by decide +kernel
theorem dX12_broken_7 : decode cX12_broken 7 = .ok (.invokevirtual 243, 3) := by decide +kernel
theorem dX12_broken_10 : decode cX12_broken 10 = .ok (.ifCond .eq 11, 3) := by decide +kernel
theorem dX12_broken_13 : decode cX12_broken 13 = .ok (.aload_n 0, 1) := by decide +kernel
theorem dX12_broken_14 : decode cX12_broken 14 = .ok (.iload_n 2, 1) := by decide +kernel
theorem dX12_broken_15 : decode cX12_broken 15 = .ok (.invokevirtual 270, 3) := by decide +kernel
theorem dX12_broken_18 : decode cX12_broken 18 = .ok (.ifCond .ne 5, 3) := by decide +kernel
theorem dX12_broken_21 : decode cX12_broken 21 = .ok (.iconst (-1), 1) := by decide +kernel
theorem dX12_broken_22 : decode cX12_broken 22 = .ok (.ireturn, 1) := by decide +kernel
theorem dX12_broken_23 : decode cX12_broken 23 = .ok (.iconst 0, 1) := by decide +kernel
theorem dX12_broken_24 : decode cX12_broken 24 = .ok (.istore_n 3, 1) := by decide +kernel
theorem dX12_broken_25 : decode cX12_broken 25 = .ok (.iconst 0, 1) := by decide +kernel
theorem dX12_broken_26 : decode cX12_broken 26 = .ok (.istore 4, 2) := by decide +kernel
theorem dX12_broken_28 : decode cX12_broken 28 = .ok (.iload 4, 2) := by decide +kernel
theorem dX12_broken_30 : decode cX12_broken 30 = .ok (.aload_n 0, 1) := by decide +kernel
theorem dX12_broken_31 : decode cX12_broken 31 = .ok (.getfield 209, 3) := by decide +kernel
theorem dX12_broken_34 : decode cX12_broken 34 = .ok (.if_icmp .ge 53, 3) := by decide +kernel
theorem dX12_broken_37 : decode cX12_broken 37 = .ok (.aload_n 0, 1) := by decide +kernel
theorem dX12_broken_38 : decode cX12_broken 38 = .ok (.iconst 3, 1) := by decide +kernel
theorem dX12_broken_39 : decode cX12_broken 39 = .ok (.iload 4, 2) := by decide +kernel
theorem dX12_broken_41 : decode cX12_broken 41 = .ok (.iload_n 1, 1) := by decide +kernel
theorem dX12_broken_42 : decode cX12_broken 42 = .ok (.iload_n 2, 1) := by decide +kernel
theorem dX12_broken_43 : decode cX12_broken 43 = .ok (.iconst 3, 1) := by decide +kernel
theorem dX12_broken_44 : decode cX12_broken 44 = .ok (.invokevirtual 258, 3) := by decide +kernel
theorem dX12_broken_47 : decode cX12_broken 47 = .ok (.istore 5, 2) := by decide +kernel
theorem dX12_broken_49 : decode cX12_broken 49 = .ok (.aload_n 0, 1) := by decide +kernel
theorem dX12_broken_50 : decode cX12_broken 50 = .ok (.iload 4, 2) := by decide +kernel
theorem dX12_broken_52 : decode cX12_broken 52 = .ok (.iload_n 1, 1) := by decide +kernel
theorem dX12_broken_53 : decode cX12_broken 53 = .ok (.iload_n 2, 1) := by decide +kernel
theorem dX12_broken_54 : decode cX12_broken 54 = .ok (.invokevirtual 262, 3) := by decide +kernel
theorem dX12_broken_57 : decode cX12_broken 57 = .ok (.istore 6, 2) := by decide +kernel
theorem dX12_broken_59 : decode cX12_broken 59 = .ok (.iload 5, 2) := by decide +kernel
theorem dX12_broken_61 : decode cX12_broken 61 = .ok (.iconst 3, 1) := by decide +kernel
theorem dX12_broken_62 : decode cX12_broken 62 = .ok (.if_icmp .eq 19, 3) := by decide +kernel
theorem dX12_broken_65 : decode cX12_broken 65 = .ok (.iload 6, 2) := by decide +kernel
theorem dX12_broken_67 : decode cX12_broken 67 = .ok (.iconst 2, 1) := by decide +kernel
theorem dX12_broken_68 : decode cX12_broken 68 = .ok (.if_icmp .eq 13, 3) := by decide +kernel
theorem dX12_broken_71 : decode cX12_broken 71 = .ok (.iload 5, 2) := by decide +kernel
theorem dX12_broken_73 : decode cX12_broken 73 = .ok (.iload 6, 2) := by decide +kernel
theorem dX12_broken_75 : decode cX12_broken 75 = .ok (.if_icmp .eq 6, 3) := by decide +kernel
theorem dX12_broken_78 : decode cX12_broken 78 = .ok (.iinc 3 1, 3) := by decide +kernel
theorem dX12_broken_81 : decode cX12_broken 81 = .ok (.iinc 4 1, 3) := by decide +kernel
theorem dX12_broken_84 : decode cX12_broken 84 = .ok (.goto (-56), 3) := by decide +kernel
theorem dX12_broken_87 : decode cX12_broken 87 = .ok (.iload_n 3, 1) := by decide +kernel
theorem dX12_broken_88 : decode cX12_broken 88 = .ok (.ireturn, 1) := by decide +kernel
theorem dX12_feed_0 : decode cX12_feed 0 = .ok (.aload_n 0, 1) := by decide +kernel
theorem dX12_feed_1 : decode cX12_feed 1 = .ok (.iconst 0, 1) := by decide +kernel
theorem dX12_feed_2 : decode cX12_feed 2 = .ok (.putfield 1, 3) := by decide +kernel
theorem dX12_feed_5 : decode cX12_feed 5 = .ok (.aload_n 0, 1) := by decide +kernel
theorem dX12_feed_6 : decode cX12_feed 6 = .ok (.getfield 276, 3) := by decide +kernel
theorem dX12_feed_9 : decode cX12_feed 9 = .ok (.bipush 20, 2) := by decide +kernel
theorem dX12_feed_11 : decode cX12_feed 11 = .ok (.iadd, 1) := by decide +kernel
theorem dX12_feed_12 : decode cX12_feed 12 = .ok (.sipush 300, 3) := by decide +kernel
theorem dX12_feed_15 : decode cX12_feed 15 = .ok (.if_icmp .le 5, 3) := by decide +kernel
theorem dX12_feed_18 : decode cX12_feed 18 = .ok (.iconst (-1), 1) := by decide +kernel
theorem dX12_feed_19 : decode cX12_feed 19 = .ok (.ireturn, 1) := by decide +kernel
theorem dX12_feed_20 : decode cX12_feed 20 = .ok (.iconst 0, 1) := by decide +kernel
theorem dX12_feed_21 : decode cX12_feed 21 = .ok (.istore 6, 2) := by decide +kernel
theorem dX12_feed_23 : decode cX12_feed 23 = .ok (.iload 6, 2) := by decide +kernel
theorem dX12_feed_25 : decode cX12_feed 25 = .ok (.bipush 20, 2) := by decide +kernel
theorem dX12_feed_27 : decode cX12_feed 27 = .ok (.if_icmp .ge 90, 3) := by decide +kernel
theorem dX12_feed_30 : decode cX12_feed 30 = .ok (.iload 6, 2) := by decide +kernel
theorem dX12_feed_32 : decode cX12_feed 32 = .ok (.iconst 4, 1) := by decide +kernel
theorem dX12_feed_33 : decode cX12_feed 33 = .ok (.if_icmp .ge 7, 3) := by decide +kernel
theorem dX12_feed_36 : decode cX12_feed 36 = .ok (.iload_n 1, 1) := by decide +kernel
theorem dX12_feed_37 : decode cX12_feed 37 = .ok (.goto 39, 3) := by decide +kernel
theorem dX12_feed_40 : decode cX12_feed 40 = .ok (.iload 6, 2) := by decide +kernel
theorem dX12_feed_42 : decode cX12_feed 42 = .ok (.bipush 8, 2) := by decide +kernel
theorem dX12_feed_44 : decode cX12_feed 44 = .ok (.if_icmp .ge 7, 3) := by decide +kernel
theorem dX12_feed_47 : decode cX12_feed 47 = .ok (.iload_n 2, 1) := by decide +kernel
theorem dX12_feed_48 : decode cX12_feed 48 = .ok (.goto 28, 3) := by decide +kernel
theorem dX12_feed_51 : decode cX12_feed 51 = .ok (.iload 6, 2) := by decide +kernel
theorem dX12_feed_53 : decode cX12_feed 53 = .ok (.bipush 12, 2) := by decide +kernel
theorem dX12_feed_55 : decode cX12_feed 55 = .ok (.if_icmp .ge 7, 3) := by decide +kernel
theorem dX12_feed_58 : decode cX12_feed 58 = .ok (.iload_n 3, 1) := by decide +kernel
theorem dX12_feed_59 : decode cX12_feed 59 = .ok (.goto 17, 3) := by decide +kernel
theorem dX12_feed_62 : decode cX12_feed 62 = .ok (.iload 6, 2) := by decide +kernel
theorem dX12_feed_64 : decode cX12_feed 64 = .ok (.bipush 16, 2) := by decide +kernel
theorem dX12_feed_66 : decode cX12_feed 66 = .ok (.if_icmp .ge 8, 3) := by decide +kernel
theorem dX12_feed_69 : decode cX12_feed 69 = .ok (.iload 4, 2) := by decide +kernel
theorem dX12_feed_71 : decode cX12_feed 71 = .ok (.goto 5, 3) := by decide +kernel
theorem dX12_feed_74 : decode cX12_feed 74 = .ok (.iload 5, 2) := by decide +kernel
theorem dX12_feed_76 : decode cX12_feed 76 = .ok (.istore 7, 2) := by decide +kernel
theorem dX12_feed_78 : decode cX12_feed 78 = .ok (.aload_n 0, 1) := by decide +kernel
theorem dX12_feed_79 : decode cX12_feed 79 = .ok (.getfield 132, 3) := by decide +kernel
theorem dX12_feed_82 : decode cX12_feed 82 = .ok (.aload_n 0, 1) := by decide +kernel
theorem dX12_feed_83 : decode cX12_feed 83 = .ok (.getfield 276, 3) := by decide +kernel
theorem dX12_feed_86 : decode cX12_feed 86 = .ok (.iload 7, 2) := by decide +kernel
theorem dX12_feed_88 : decode cX12_feed 88 = .ok (.bipush 24, 2) := by decide +kernel
theorem dX12_feed_90 : decode cX12_feed 90 = .ok (.bipush 8, 2) := by decide +kernel
theorem dX12_feed_92 : decode cX12_feed 92 = .ok (.iload 6, 2) := by decide +kernel
theorem dX12_feed_94 : decode cX12_feed 94 = .ok (.iconst 4, 1) := by decide +kernel
theorem dX12_feed_95 : decode cX12_feed 95 = .ok (.irem, 1) := by decide +kernel
theorem dX12_feed_96 : decode cX12_feed 96 = .ok (.imul, 1) := by decide +kernel
theorem dX12_feed_97 : decode cX12_feed 97 = .ok (.isub, 1) := by decide +kernel
theorem dX12_feed_98 : decode cX12_feed 98 = .ok (.ishr, 1) := by decide +kernel
theorem dX12_feed_99 : decode cX12_feed 99 = .ok (.i2b, 1) := by decide +kernel
theorem dX12_feed_100 : decode cX12_feed 100 = .ok (.bastore, 1) := by decide +kernel
theorem dX12_feed_101 : decode cX12_feed 101 = .ok (.aload_n 0, 1) := by decide +kernel
theorem dX12_feed_102 : decode cX12_feed 102 = .ok (.dup, 1) := by decide +kernel
theorem dX12_feed_103 : decode cX12_feed 103 = .ok (.getfield 276, 3) := by decide +kernel
theorem dX12_feed_106 : decode cX12_feed 106 = .ok (.iconst 1, 1) := by decide +kernel
theorem dX12_feed_107 : decode cX12_feed 107 = .ok (.iadd, 1) := by decide +kernel
theorem dX12_feed_108 : decode cX12_feed 108 = .ok (.putfield 276, 3) := by decide +kernel
theorem dX12_feed_111 : decode cX12_feed 111 = .ok (.iinc 6 1, 3) := by decide +kernel
theorem dX12_feed_114 : decode cX12_feed 114 = .ok (.goto (-91), 3) := by decide +kernel
theorem dX12_feed_117 : decode cX12_feed 117 = .ok (.aload_n 0, 1) := by decide +kernel
theorem dX12_feed_118 : decode cX12_feed 118 = .ok (.getfield 276, 3) := by decide +kernel
theorem dX12_feed_121 : decode cX12_feed 121 = .ok (.ireturn, 1) := by decide +kernel
theorem dX12_end_0 : decode cX12_end 0 = .ok (.aload_n 0, 1) := by decide +kernel
theorem dX12_end_1 : decode cX12_end 1 = .ok (.iconst 0, 1) := by decide +kernel
theorem dX12_end_2 : decode cX12_end 2 = .ok (.putfield 1, 3) := by decide +kernel
theorem dX12_end_5 : decode cX12_end 5 = .ok (.iload_n 1, 1) := by decide +kernel
theorem dX12_end_6 : decode cX12_end 6 = .ok (.ifCond .lt 11, 3) := by decide +kernel
theorem dX12_end_9 : decode cX12_end 9 = .ok (.iload_n 1, 1) := by decide +kernel
theorem dX12_end_10 : decode cX12_end 10 = .ok (.aload_n 0, 1) := by decide +kernel
theorem dX12_end_11 : decode cX12_end 11 = .ok (.getfield 276, 3) := by decide +kernel
theorem dX12_end_14 : decode cX12_end 14 = .ok (.if_icmp .le 5, 3) := by decide +kernel
theorem dX12_end_17 : decode cX12_end 17 = .ok (.iconst (-1), 1) := by decide +kernel
theorem dX12_end_18 : decode cX12_end 18 = .ok (.ireturn, 1) := by decide +kernel
theorem dX12_end_19 : decode cX12_end 19 = .ok (.aload_n 0, 1) := by decide +kernel
theorem dX12_end_20 : decode cX12_end 20 = .ok (.iload_n 1, 1) := by decide +kernel
theorem dX12_end_21 : decode cX12_end 21 = .ok (.putfield 276, 3) := by decide +kernel
theorem dX12_end_24 : decode cX12_end 24 = .ok (.iload_n 1, 1) := by decide +kernel
theorem dX12_end_25 : decode cX12_end 25 = .ok (.ireturn, 1) := by decide +kernel
theorem dX12_see_0 : decode cX12_see 0 = .ok (.iload_n 1, 1) := by decide +kernel
theorem dX12_see_1 : decode cX12_see 1 = .ok (.aload_n 0, 1) := by decide +kernel
theorem dX12_see_2 : decode cX12_see 2 = .ok (.getfield 276, 3) := by decide +kernel
theorem dX12_see_5 : decode cX12_see 5 = .ok (.if_icmp .ge 12, 3) := by decide +kernel
theorem dX12_see_8 : decode cX12_see 8 = .ok (.aload_n 0, 1) := by decide +kernel
theorem dX12_see_9 : decode cX12_see 9 = .ok (.getfield 132, 3) := by decide +kernel
theorem dX12_see_12 : decode cX12_see 12 = .ok (.iload_n 1, 1) := by decide +kernel
theorem dX12_see_13 : decode cX12_see 13 = .ok (.baload, 1) := by decide +kernel
theorem dX12_see_14 : decode cX12_see 14 = .ok (.goto 4, 3) := by decide +kernel
theorem dX12_see_17 : decode cX12_see 17 = .ok (.iconst 0, 1) := by decide +kernel
theorem dX12_see_18 : decode cX12_see 18 = .ok (.ireturn, 1) := by decide +kernel
theorem dX12_isSmall_0 : decode cX12_isSmall 0 = .ok (.iload_n 0, 1) := by decide +kernel
theorem dX12_isSmall_1 : decode cX12_isSmall 1 = .ok (.bipush 97, 2) := by decide +kernel
theorem dX12_isSmall_3 : decode cX12_isSmall 3 = .ok (.if_icmp .lt 13, 3) := by decide +kernel
theorem dX12_isSmall_6 : decode cX12_isSmall 6 = .ok (.iload_n 0, 1) := by decide +kernel
theorem dX12_isSmall_7 : decode cX12_isSmall 7 = .ok (.bipush 122, 2) := by decide +kernel
theorem dX12_isSmall_9 : decode cX12_isSmall 9 = .ok (.if_icmp .gt 7, 3) := by decide +kernel
theorem dX12_isSmall_12 : decode cX12_isSmall 12 = .ok (.iconst 1, 1) := by decide +kernel
theorem dX12_isSmall_13 : decode cX12_isSmall 13 = .ok (.goto 4, 3) := by decide +kernel
theorem dX12_isSmall_16 : decode cX12_isSmall 16 = .ok (.iconst 0, 1) := by decide +kernel
theorem dX12_isSmall_17 : decode cX12_isSmall 17 = .ok (.ireturn, 1) := by decide +kernel
theorem dX12_isDigit_0 : decode cX12_isDigit 0 = .ok (.iload_n 0, 1) := by decide +kernel
theorem dX12_isDigit_1 : decode cX12_isDigit 1 = .ok (.bipush 48, 2) := by decide +kernel
theorem dX12_isDigit_3 : decode cX12_isDigit 3 = .ok (.if_icmp .lt 13, 3) := by decide +kernel
theorem dX12_isDigit_6 : decode cX12_isDigit 6 = .ok (.iload_n 0, 1) := by decide +kernel
theorem dX12_isDigit_7 : decode cX12_isDigit 7 = .ok (.bipush 57, 2) := by decide +kernel
theorem dX12_isDigit_9 : decode cX12_isDigit 9 = .ok (.if_icmp .gt 7, 3) := by decide +kernel
theorem dX12_isDigit_12 : decode cX12_isDigit 12 = .ok (.iconst 1, 1) := by decide +kernel
theorem dX12_isDigit_13 : decode cX12_isDigit 13 = .ok (.goto 4, 3) := by decide +kernel
theorem dX12_isDigit_16 : decode cX12_isDigit 16 = .ok (.iconst 0, 1) := by decide +kernel
theorem dX12_isDigit_17 : decode cX12_isDigit 17 = .ok (.ireturn, 1) := by decide +kernel
theorem dX12_next_0 : decode cX12_next 0 = .ok (.aload_n 0, 1) := by decide +kernel
theorem dX12_next_1 : decode cX12_next 1 = .ok (.getfield 279, 3) := by decide +kernel
theorem dX12_next_4 : decode cX12_next 4 = .ok (.aload_n 0, 1) := by decide +kernel
theorem dX12_next_5 : decode cX12_next 5 = .ok (.getfield 276, 3) := by decide +kernel
theorem dX12_next_8 : decode cX12_next 8 = .ok (.if_icmp .ge 44, 3) := by decide +kernel
theorem dX12_next_11 : decode cX12_next 11 = .ok (.aload_n 0, 1) := by decide +kernel
theorem dX12_next_12 : decode cX12_next 12 = .ok (.getfield 132, 3) := by decide +kernel
theorem dX12_next_15 : decode cX12_next 15 = .ok (.aload_n 0, 1) := by decide +kernel
theorem dX12_next_16 : decode cX12_next 16 = .ok (.getfield 279, 3) := by decide +kernel
theorem dX12_next_19 : decode cX12_next 19 = .ok (.baload, 1) := by decide +kernel
theorem dX12_next_20 : decode cX12_next 20 = .ok (.bipush 32, 2) := by decide +kernel
theorem dX12_next_22 : decode cX12_next 22 = .ok (.if_icmp .eq 17, 3) := by decide +kernel
theorem dX12_next_25 : decode cX12_next 25 = .ok (.aload_n 0, 1) := by decide +kernel
theorem dX12_next_26 : decode cX12_next 26 = .ok (.getfield 132, 3) := by decide +kernel
theorem dX12_next_29 : decode cX12_next 29 = .ok (.aload_n 0, 1) := by decide +kernel
theorem dX12_next_30 : decode cX12_next 30 = .ok (.getfield 279, 3) := by decide +kernel
theorem dX12_next_33 : decode cX12_next 33 = .ok (.baload, 1) := by decide +kernel
theorem dX12_next_34 : decode cX12_next 34 = .ok (.bipush 10, 2) := by decide +kernel
theorem dX12_next_36 : decode cX12_next 36 = .ok (.if_icmp .ne 16, 3) := by decide +kernel
theorem dX12_next_39 : decode cX12_next 39 = .ok (.aload_n 0, 1) := by decide +kernel
theorem dX12_next_40 : decode cX12_next 40 = .ok (.dup, 1) := by decide +kernel
theorem dX12_next_41 : decode cX12_next 41 = .ok (.getfield 279, 3) := by decide +kernel
theorem dX12_next_44 : decode cX12_next 44 = .ok (.iconst 1, 1) := by decide +kernel
theorem dX12_next_45 : decode cX12_next 45 = .ok (.iadd, 1) := by decide +kernel
theorem dX12_next_46 : decode cX12_next 46 = .ok (.putfield 279, 3) := by decide +kernel
theorem dX12_next_49 : decode cX12_next 49 = .ok (.goto (-49), 3) := by decide +kernel
theorem dX12_next_52 : decode cX12_next 52 = .ok (.aload_n 0, 1) := by decide +kernel
theorem dX12_next_53 : decode cX12_next 53 = .ok (.aload_n 0, 1) := by decide +kernel
theorem dX12_next_54 : decode cX12_next 54 = .ok (.getfield 279, 3) := by decide +kernel
theorem dX12_next_57 : decode cX12_next 57 = .ok (.putfield 282, 3) := by decide +kernel
theorem dX12_next_60 : decode cX12_next 60 = .ok (.aload_n 0, 1) := by decide +kernel
theorem dX12_next_61 : decode cX12_next 61 = .ok (.getfield 279, 3) := by decide +kernel
theorem dX12_next_64 : decode cX12_next 64 = .ok (.aload_n 0, 1) := by decide +kernel
theorem dX12_next_65 : decode cX12_next 65 = .ok (.getfield 276, 3) := by decide +kernel
theorem dX12_next_68 : decode cX12_next 68 = .ok (.if_icmp .lt 9, 3) := by decide +kernel
theorem dX12_next_71 : decode cX12_next 71 = .ok (.aload_n 0, 1) := by decide +kernel
theorem dX12_next_72 : decode cX12_next 72 = .ok (.iconst 0, 1) := by decide +kernel
theorem dX12_next_73 : decode cX12_next 73 = .ok (.putfield 285, 3) := by decide +kernel
theorem dX12_next_76 : decode cX12_next 76 = .ok (.return_, 1) := by decide +kernel
theorem dX12_next_77 : decode cX12_next 77 = .ok (.aload_n 0, 1) := by decide +kernel
theorem dX12_next_78 : decode cX12_next 78 = .ok (.getfield 132, 3) := by decide +kernel
theorem dX12_next_81 : decode cX12_next 81 = .ok (.aload_n 0, 1) := by decide +kernel
theorem dX12_next_82 : decode cX12_next 82 = .ok (.getfield 279, 3) := by decide +kernel
theorem dX12_next_85 : decode cX12_next 85 = .ok (.baload, 1) := by decide +kernel
theorem dX12_next_86 : decode cX12_next 86 = .ok (.istore_n 1, 1) := by decide +kernel
theorem dX12_next_87 : decode cX12_next 87 = .ok (.aload_n 0, 1) := by decide +kernel
theorem dX12_next_88 : decode cX12_next 88 = .ok (.dup, 1) := by decide +kernel
theorem dX12_next_89 : decode cX12_next 89 = .ok (.getfield 279, 3) := by decide +kernel
theorem dX12_next_92 : decode cX12_next 92 = .ok (.iconst 1, 1) := by decide +kernel
theorem dX12_next_93 : decode cX12_next 93 = .ok (.iadd, 1) := by decide +kernel
theorem dX12_next_94 : decode cX12_next 94 = .ok (.putfield 279, 3) := by decide +kernel
theorem dX12_next_97 : decode cX12_next 97 = .ok (.aload_n 0, 1) := by decide +kernel
theorem dX12_next_98 : decode cX12_next 98 = .ok (.iload_n 1, 1) := by decide +kernel
theorem dX12_next_99 : decode cX12_next 99 = .ok (.putfield 288, 3) := by decide +kernel
theorem dX12_next_102 : decode cX12_next 102 = .ok (.iload_n 1, 1) := by decide +kernel
theorem dX12_next_103 : decode cX12_next 103 = .ok (.invokestatic 291, 3) := by decide +kernel
theorem dX12_next_106 : decode cX12_next 106 = .ok (.ifCond .eq 38, 3) := by decide +kernel
theorem dX12_next_109 : decode cX12_next 109 = .ok (.aload_n 0, 1) := by decide +kernel
theorem dX12_next_110 : decode cX12_next 110 = .ok (.aload_n 0, 1) := by decide +kernel
theorem dX12_next_111 : decode cX12_next 111 = .ok (.getfield 279, 3) := by decide +kernel
theorem dX12_next_114 : decode cX12_next 114 = .ok (.invokevirtual 294, 3) := by decide +kernel
theorem dX12_next_117 : decode cX12_next 117 = .ok (.invokestatic 291, 3) := by decide +kernel
theorem dX12_next_120 : decode cX12_next 120 = .ok (.ifCond .eq 16, 3) := by decide +kernel
theorem dX12_next_123 : decode cX12_next 123 = .ok (.aload_n 0, 1) := by decide +kernel
theorem dX12_next_124 : decode cX12_next 124 = .ok (.dup, 1) := by decide +kernel
theorem dX12_next_125 : decode cX12_next 125 = .ok (.getfield 279, 3) := by decide +kernel
theorem dX12_next_128 : decode cX12_next 128 = .ok (.iconst 1, 1) := by decide +kernel
theorem dX12_next_129 : decode cX12_next 129 = .ok (.iadd, 1) := by decide +kernel
theorem dX12_next_130 : decode cX12_next 130 = .ok (.putfield 279, 3) := by decide +kernel
theorem dX12_next_133 : decode cX12_next 133 = .ok (.goto (-24), 3) := by decide +kernel
theorem dX12_next_136 : decode cX12_next 136 = .ok (.aload_n 0, 1) := by decide +kernel
theorem dX12_next_137 : decode cX12_next 137 = .ok (.iconst 3, 1) := by decide +kernel
theorem dX12_next_138 : decode cX12_next 138 = .ok (.putfield 285, 3) := by decide +kernel
theorem dX12_next_141 : decode cX12_next 141 = .ok (.goto 111, 3) := by decide +kernel
theorem dX12_next_144 : decode cX12_next 144 = .ok (.iload_n 1, 1) := by decide +kernel
theorem dX12_next_145 : decode cX12_next 145 = .ok (.invokestatic 297, 3) := by decide +kernel
theorem dX12_next_148 : decode cX12_next 148 = .ok (.ifCond .eq 99, 3) := by decide +kernel
theorem dX12_next_151 : decode cX12_next 151 = .ok (.aload_n 0, 1) := by decide +kernel
theorem dX12_next_152 : decode cX12_next 152 = .ok (.iload_n 1, 1) := by decide +kernel
theorem dX12_next_153 : decode cX12_next 153 = .ok (.bipush 48, 2) := by decide +kernel
theorem dX12_next_155 : decode cX12_next 155 = .ok (.isub, 1) := by decide +kernel
theorem dX12_next_156 : decode cX12_next 156 = .ok (.putfield 288, 3) := by decide +kernel
theorem dX12_next_159 : decode cX12_next 159 = .ok (.aload_n 0, 1) := by decide +kernel
theorem dX12_next_160 : decode cX12_next 160 = .ok (.aload_n 0, 1) := by decide +kernel
theorem dX12_next_161 : decode cX12_next 161 = .ok (.getfield 279, 3) := by decide +kernel
theorem dX12_next_164 : decode cX12_next 164 = .ok (.invokevirtual 294, 3) := by decide +kernel
theorem dX12_next_167 : decode cX12_next 167 = .ok (.invokestatic 297, 3) := by decide +kernel
theorem dX12_next_170 : decode cX12_next 170 = .ok (.ifCond .eq 52, 3) := by decide +kernel
theorem dX12_next_173 : decode cX12_next 173 = .ok (.aload_n 0, 1) := by decide +kernel
theorem dX12_next_174 : decode cX12_next 174 = .ok (.getfield 279, 3) := by decide +kernel
theorem dX12_next_177 : decode cX12_next 177 = .ok (.aload_n 0, 1) := by decide +kernel
theorem dX12_next_178 : decode cX12_next 178 = .ok (.getfield 282, 3) := by decide +kernel
theorem dX12_next_181 : decode cX12_next 181 = .ok (.isub, 1) := by decide +kernel
theorem dX12_next_182 : decode cX12_next 182 = .ok (.iconst 4, 1) := by decide +kernel
theorem dX12_next_183 : decode cX12_next 183 = .ok (.if_icmp .ge 26, 3) := by decide +kernel
theorem dX12_next_186 : decode cX12_next 186 = .ok (.aload_n 0, 1) := by decide +kernel
theorem dX12_next_187 : decode cX12_next 187 = .ok (.bipush 10, 2) := by decide +kernel
theorem dX12_next_189 : decode cX12_next 189 = .ok (.aload_n 0, 1) := by decide +kernel
theorem dX12_next_190 : decode cX12_next 190 = .ok (.getfield 288, 3) := by decide +kernel
theorem dX12_next_193 : decode cX12_next 193 = .ok (.imul, 1) := by decide +kernel
theorem dX12_next_194 : decode cX12_next 194 = .ok (.aload_n 0, 1) := by decide +kernel
theorem dX12_next_195 : decode cX12_next 195 = .ok (.aload_n 0, 1) := by decide +kernel
theorem dX12_next_196 : decode cX12_next 196 = .ok (.getfield 279, 3) := by decide +kernel
theorem dX12_next_199 : decode cX12_next 199 = .ok (.invokevirtual 294, 3) := by decide +kernel
theorem dX12_next_202 : decode cX12_next 202 = .ok (.iadd, 1) := by decide +kernel
theorem dX12_next_203 : decode cX12_next 203 = .ok (.bipush 48, 2) := by decide +kernel
theorem dX12_next_205 : decode cX12_next 205 = .ok (.isub, 1) := by decide +kernel
theorem dX12_next_206 : decode cX12_next 206 = .ok (.putfield 288, 3) := by decide +kernel
theorem dX12_next_209 : decode cX12_next 209 = .ok (.aload_n 0, 1) := by decide +kernel
theorem dX12_next_210 : decode cX12_next 210 = .ok (.dup, 1) := by decide +kernel
theorem dX12_next_211 : decode cX12_next 211 = .ok (.getfield 279, 3) := by decide +kernel
theorem dX12_next_214 : decode cX12_next 214 = .ok (.iconst 1, 1) := by decide +kernel
theorem dX12_next_215 : decode cX12_next 215 = .ok (.iadd, 1) := by decide +kernel
theorem dX12_next_216 : decode cX12_next 216 = .ok (.putfield 279, 3) := by decide +kernel
theorem dX12_next_219 : decode cX12_next 219 = .ok (.goto (-60), 3) := by decide +kernel
theorem dX12_next_222 : decode cX12_next 222 = .ok (.aload_n 0, 1) := by decide +kernel
theorem dX12_next_223 : decode cX12_next 223 = .ok (.aload_n 0, 1) := by decide +kernel
theorem dX12_next_224 : decode cX12_next 224 = .ok (.getfield 279, 3) := by decide +kernel
theorem dX12_next_227 : decode cX12_next 227 = .ok (.aload_n 0, 1) := by decide +kernel
theorem dX12_next_228 : decode cX12_next 228 = .ok (.getfield 282, 3) := by decide +kernel
theorem dX12_next_231 : decode cX12_next 231 = .ok (.isub, 1) := by decide +kernel
theorem dX12_next_232 : decode cX12_next 232 = .ok (.iconst 4, 1) := by decide +kernel
theorem dX12_next_233 : decode cX12_next 233 = .ok (.if_icmp .le 7, 3) := by decide +kernel
theorem dX12_next_236 : decode cX12_next 236 = .ok (.iconst 1, 1) := by decide +kernel
theorem dX12_next_237 : decode cX12_next 237 = .ok (.goto 4, 3) := by decide +kernel
theorem dX12_next_240 : decode cX12_next 240 = .ok (.iconst 2, 1) := by decide +kernel
theorem dX12_next_241 : decode cX12_next 241 = .ok (.putfield 285, 3) := by decide +kernel
theorem dX12_next_244 : decode cX12_next 244 = .ok (.goto 8, 3) := by decide +kernel
theorem dX12_next_247 : decode cX12_next 247 = .ok (.aload_n 0, 1) := by decide +kernel
theorem dX12_next_248 : decode cX12_next 248 = .ok (.iconst 4, 1) := by decide +kernel
theorem dX12_next_249 : decode cX12_next 249 = .ok (.putfield 285, 3) := by decide +kernel
theorem dX12_next_252 : decode cX12_next 252 = .ok (.return_, 1) := by decide +kernel
theorem dX12_isWord_0 : decode cX12_isWord 0 = .ok (.aload_n 0, 1) := by decide +kernel
theorem dX12_isWord_1 : decode cX12_isWord 1 = .ok (.getfield 285, 3) := by decide +kernel
theorem dX12_isWord_4 : decode cX12_isWord 4 = .ok (.iconst 3, 1) := by decide +kernel
theorem dX12_isWord_5 : decode cX12_isWord 5 = .ok (.if_icmp .ne 19, 3) := by decide +kernel
theorem dX12_isWord_8 : decode cX12_isWord 8 = .ok (.aload_n 0, 1) := by decide +kernel
theorem dX12_isWord_9 : decode cX12_isWord 9 = .ok (.getfield 279, 3) := by decide +kernel
theorem dX12_isWord_12 : decode cX12_isWord 12 = .ok (.aload_n 0, 1) := by decide +kernel
theorem dX12_isWord_13 : decode cX12_isWord 13 = .ok (.getfield 282, 3) := by decide +kernel
theorem dX12_isWord_16 : decode cX12_isWord 16 = .ok (.isub, 1) := by decide +kernel
theorem dX12_isWord_17 : decode cX12_isWord 17 = .ok (.aload_n 1, 1) := by decide +kernel
theorem dX12_isWord_18 : decode cX12_isWord 18 = .ok (.invokevirtual 300, 3) := by decide +kernel
theorem dX12_isWord_21 : decode cX12_isWord 21 = .ok (.if_icmp .eq 5, 3) := by decide +kernel
theorem dX12_isWord_24 : decode cX12_isWord 24 = .ok (.iconst 0, 1) := by decide +kernel
theorem dX12_isWord_25 : decode cX12_isWord 25 = .ok (.ireturn, 1) := by decide +kernel
theorem dX12_isWord_26 : decode cX12_isWord 26 = .ok (.iconst 0, 1) := by decide +kernel
theorem dX12_isWord_27 : decode cX12_isWord 27 = .ok (.istore_n 2, 1) := by decide +kernel
theorem dX12_isWord_28 : decode cX12_isWord 28 = .ok (.iload_n 2, 1) := by decide +kernel
theorem dX12_isWord_29 : decode cX12_isWord 29 = .ok (.aload_n 1, 1) := by decide +kernel
theorem dX12_isWord_30 : decode cX12_isWord 30 = .ok (.invokevirtual 300, 3) := by decide +kernel
theorem dX12_isWord_33 : decode cX12_isWord 33 = .ok (.if_icmp .ge 30, 3) := by decide +kernel
theorem dX12_isWord_36 : decode cX12_isWord 36 = .ok (.aload_n 0, 1) := by decide +kernel
theorem dX12_isWord_37 : decode cX12_isWord 37 = .ok (.getfield 132, 3) := by decide +kernel
theorem dX12_isWord_40 : decode cX12_isWord 40 = .ok (.aload_n 0, 1) := by decide +kernel
theorem dX12_isWord_41 : decode cX12_isWord 41 = .ok (.getfield 282, 3) := by decide +kernel
theorem dX12_isWord_44 : decode cX12_isWord 44 = .ok (.iload_n 2, 1) := by decide +kernel
theorem dX12_isWord_45 : decode cX12_isWord 45 = .ok (.iadd, 1) := by decide +kernel
theorem dX12_isWord_46 : decode cX12_isWord 46 = .ok (.baload, 1) := by decide +kernel
theorem dX12_isWord_47 : decode cX12_isWord 47 = .ok (.aload_n 1, 1) := by decide +kernel
theorem dX12_isWord_48 : decode cX12_isWord 48 = .ok (.iload_n 2, 1) := by decide +kernel
theorem dX12_isWord_49 : decode cX12_isWord 49 = .ok (.invokevirtual 306, 3) := by decide +kernel
theorem dX12_isWord_52 : decode cX12_isWord 52 = .ok (.if_icmp .eq 5, 3) := by decide +kernel
theorem dX12_isWord_55 : decode cX12_isWord 55 = .ok (.iconst 0, 1) := by decide +kernel
theorem dX12_isWord_56 : decode cX12_isWord 56 = .ok (.ireturn, 1) := by decide +kernel
theorem dX12_isWord_57 : decode cX12_isWord 57 = .ok (.iinc 2 1, 3) := by decide +kernel
theorem dX12_isWord_60 : decode cX12_isWord 60 = .ok (.goto (-32), 3) := by decide +kernel
theorem dX12_isWord_63 : decode cX12_isWord 63 = .ok (.iconst 1, 1) := by decide +kernel
theorem dX12_isWord_64 : decode cX12_isWord 64 = .ok (.ireturn, 1) := by decide +kernel
theorem dX12_isSign_0 : decode cX12_isSign 0 = .ok (.aload_n 0, 1) := by decide +kernel
theorem dX12_isSign_1 : decode cX12_isSign 1 = .ok (.getfield 285, 3) := by decide +kernel
theorem dX12_isSign_4 : decode cX12_isSign 4 = .ok (.iconst 4, 1) := by decide +kernel
theorem dX12_isSign_5 : decode cX12_isSign 5 = .ok (.if_icmp .ne 15, 3) := by decide +kernel
theorem dX12_isSign_8 : decode cX12_isSign 8 = .ok (.aload_n 0, 1) := by decide +kernel
theorem dX12_isSign_9 : decode cX12_isSign 9 = .ok (.getfield 288, 3) := by decide +kernel
theorem dX12_isSign_12 : decode cX12_isSign 12 = .ok (.iload_n 1, 1) := by decide +kernel
theorem dX12_isSign_13 : decode cX12_isSign 13 = .ok (.if_icmp .ne 7, 3) := by decide +kernel
theorem dX12_isSign_16 : decode cX12_isSign 16 = .ok (.iconst 1, 1) := by decide +kernel
theorem dX12_isSign_17 : decode cX12_isSign 17 = .ok (.goto 4, 3) := by decide +kernel
theorem dX12_isSign_20 : decode cX12_isSign 20 = .ok (.iconst 0, 1) := by decide +kernel
theorem dX12_isSign_21 : decode cX12_isSign 21 = .ok (.ireturn, 1) := by decide +kernel
theorem dX12_fails_0 : decode cX12_fails 0 = .ok (.aload_n 0, 1) := by decide +kernel
theorem dX12_fails_1 : decode cX12_fails 1 = .ok (.getfield 310, 3) := by decide +kernel
theorem dX12_fails_4 : decode cX12_fails 4 = .ok (.ifCond .eq 4, 3) := by decide +kernel
theorem dX12_fails_7 : decode cX12_fails 7 = .ok (.return_, 1) := by decide +kernel
theorem dX12_fails_8 : decode cX12_fails 8 = .ok (.aload_n 0, 1) := by decide +kernel
theorem dX12_fails_9 : decode cX12_fails 9 = .ok (.iload_n 1, 1) := by decide +kernel
theorem dX12_fails_10 : decode cX12_fails 10 = .ok (.putfield 310, 3) := by decide +kernel
theorem dX12_fails_13 : decode cX12_fails 13 = .ok (.aload_n 0, 1) := by decide +kernel
theorem dX12_fails_14 : decode cX12_fails 14 = .ok (.aload_n 0, 1) := by decide +kernel
theorem dX12_fails_15 : decode cX12_fails 15 = .ok (.getfield 282, 3) := by decide +kernel
theorem dX12_fails_18 : decode cX12_fails 18 = .ok (.putfield 313, 3) := by decide +kernel
theorem dX12_fails_21 : decode cX12_fails 21 = .ok (.return_, 1) := by decide +kernel
theorem dX12_isWell_0 : decode cX12_isWell 0 = .ok (.aload_n 0, 1) := by decide +kernel
theorem dX12_isWell_1 : decode cX12_isWell 1 = .ok (.getfield 310, 3) := by decide +kernel
theorem dX12_isWell_4 : decode cX12_isWell 4 = .ok (.ifCond .ne 7, 3) := by decide +kernel
theorem dX12_isWell_7 : decode cX12_isWell 7 = .ok (.iconst 1, 1) := by decide +kernel
theorem dX12_isWell_8 : decode cX12_isWell 8 = .ok (.goto 4, 3) := by decide +kernel
theorem dX12_isWell_11 : decode cX12_isWell 11 = .ok (.iconst 0, 1) := by decide +kernel
theorem dX12_isWell_12 : decode cX12_isWell 12 = .ok (.ireturn, 1) := by decide +kernel
theorem dX12_wantSign_0 : decode cX12_wantSign 0 = .ok (.aload_n 0, 1) := by decide +kernel
theorem dX12_wantSign_1 : decode cX12_wantSign 1 = .ok (.invokevirtual 316, 3) := by decide +kernel
theorem dX12_wantSign_4 : decode cX12_wantSign 4 = .ok (.ifCond .ne 4, 3) := by decide +kernel
theorem dX12_wantSign_7 : decode cX12_wantSign 7 = .ok (.return_, 1) := by decide +kernel
theorem dX12_wantSign_8 : decode cX12_wantSign 8 = .ok (.aload_n 0, 1) := by decide +kernel
theorem dX12_wantSign_9 : decode cX12_wantSign 9 = .ok (.iload_n 1, 1) := by decide +kernel
theorem dX12_wantSign_10 : decode cX12_wantSign 10 = .ok (.invokevirtual 319, 3) := by decide +kernel
theorem dX12_wantSign_13 : decode cX12_wantSign 13 = .ok (.ifCond .eq 10, 3) := by decide +kernel
theorem dX12_wantSign_16 : decode cX12_wantSign 16 = .ok (.aload_n 0, 1) := by decide +kernel
theorem dX12_wantSign_17 : decode cX12_wantSign 17 = .ok (.invokevirtual 322, 3) := by decide +kernel
theorem dX12_wantSign_20 : decode cX12_wantSign 20 = .ok (.goto 8, 3) := by decide +kernel
theorem dX12_wantSign_23 : decode cX12_wantSign 23 = .ok (.aload_n 0, 1) := by decide +kernel
theorem dX12_wantSign_24 : decode cX12_wantSign 24 = .ok (.iconst 1, 1) := by decide +kernel
theorem dX12_wantSign_25 : decode cX12_wantSign 25 = .ok (.invokevirtual 325, 3) := by decide +kernel
theorem dX12_wantSign_28 : decode cX12_wantSign 28 = .ok (.return_, 1) := by decide +kernel
theorem dX12_wantWord_0 : decode cX12_wantWord 0 = .ok (.aload_n 0, 1) := by decide +kernel
theorem dX12_wantWord_1 : decode cX12_wantWord 1 = .ok (.invokevirtual 316, 3) := by decide +kernel
theorem dX12_wantWord_4 : decode cX12_wantWord 4 = .ok (.ifCond .ne 4, 3) := by decide +kernel
theorem dX12_wantWord_7 : decode cX12_wantWord 7 = .ok (.return_, 1) := by decide +kernel
theorem dX12_wantWord_8 : decode cX12_wantWord 8 = .ok (.aload_n 0, 1) := by decide +kernel
theorem dX12_wantWord_9 : decode cX12_wantWord 9 = .ok (.aload_n 1, 1) := by decide +kernel
theorem dX12_wantWord_10 : decode cX12_wantWord 10 = .ok (.invokevirtual 329, 3) := by decide +kernel
theorem dX12_wantWord_13 : decode cX12_wantWord 13 = .ok (.ifCond .eq 10, 3) := by decide +kernel
theorem dX12_wantWord_16 : decode cX12_wantWord 16 = .ok (.aload_n 0, 1) := by decide +kernel
theorem dX12_wantWord_17 : decode cX12_wantWord 17 = .ok (.invokevirtual 322, 3) := by decide +kernel
theorem dX12_wantWord_20 : decode cX12_wantWord 20 = .ok (.goto 8, 3) := by decide +kernel
theorem dX12_wantWord_23 : decode cX12_wantWord 23 = .ok (.aload_n 0, 1) := by decide +kernel
theorem dX12_wantWord_24 : decode cX12_wantWord 24 = .ok (.iconst 1, 1) := by decide +kernel
theorem dX12_wantWord_25 : decode cX12_wantWord 25 = .ok (.invokevirtual 325, 3) := by decide +kernel
theorem dX12_wantWord_28 : decode cX12_wantWord 28 = .ok (.return_, 1) := by decide +kernel
theorem dX12_name_0 : decode cX12_name 0 = .ok (.aload_n 0, 1) := by decide +kernel
theorem dX12_name_1 : decode cX12_name 1 = .ok (.getfield 333, 3) := by decide +kernel
theorem dX12_name_4 : decode cX12_name 4 = .ok (.iconst 3, 1) := by decide +kernel
theorem dX12_name_5 : decode cX12_name 5 = .ok (.if_icmp .ne 65, 3) := by decide +kernel
theorem dX12_name_8 : decode cX12_name 8 = .ok (.aload_n 0, 1) := by decide +kernel
theorem dX12_name_9 : decode cX12_name 9 = .ok (.ldc_w 336, 3) := by decide +kernel
theorem dX12_name_12 : decode cX12_name 12 = .ok (.invokevirtual 329, 3) := by decide +kernel
theorem dX12_name_15 : decode cX12_name 15 = .ok (.ifCond .eq 8, 3) := by decide +kernel
theorem dX12_name_18 : decode cX12_name 18 = .ok (.bipush 6, 2) := by decide +kernel
theorem dX12_name_20 : decode cX12_name 20 = .ok (.goto 49, 3) := by decide +kernel
theorem dX12_name_23 : decode cX12_name 23 = .ok (.aload_n 0, 1) := by decide +kernel
theorem dX12_name_24 : decode cX12_name 24 = .ok (.ldc_w 338, 3) := by decide +kernel
theorem dX12_name_27 : decode cX12_name 27 = .ok (.invokevirtual 329, 3) := by decide +kernel
theorem dX12_name_30 : decode cX12_name 30 = .ok (.ifCond .eq 8, 3) := by decide +kernel
theorem dX12_name_33 : decode cX12_name 33 = .ok (.bipush 7, 2) := by decide +kernel
theorem dX12_name_35 : decode cX12_name 35 = .ok (.goto 34, 3) := by decide +kernel
theorem dX12_name_38 : decode cX12_name 38 = .ok (.aload_n 0, 1) := by decide +kernel
theorem dX12_name_39 : decode cX12_name 39 = .ok (.ldc_w 339, 3) := by decide +kernel
theorem dX12_name_42 : decode cX12_name 42 = .ok (.invokevirtual 329, 3) := by decide +kernel
theorem dX12_name_45 : decode cX12_name 45 = .ok (.ifCond .eq 8, 3) := by decide +kernel
theorem dX12_name_48 : decode cX12_name 48 = .ok (.bipush 8, 2) := by decide +kernel
theorem dX12_name_50 : decode cX12_name 50 = .ok (.goto 19, 3) := by decide +kernel
theorem dX12_name_53 : decode cX12_name 53 = .ok (.aload_n 0, 1) := by decide +kernel
theorem dX12_name_54 : decode cX12_name 54 = .ok (.ldc_w 340, 3) := by decide +kernel
theorem dX12_name_57 : decode cX12_name 57 = .ok (.invokevirtual 329, 3) := by decide +kernel
theorem dX12_name_60 : decode cX12_name 60 = .ok (.ifCond .eq 8, 3) := by decide +kernel
theorem dX12_name_63 : decode cX12_name 63 = .ok (.bipush 9, 2) := by decide +kernel
theorem dX12_name_65 : decode cX12_name 65 = .ok (.goto 4, 3) := by decide +kernel
theorem dX12_name_68 : decode cX12_name 68 = .ok (.iconst (-1), 1) := by decide +kernel
theorem dX12_name_69 : decode cX12_name 69 = .ok (.ireturn, 1) := by decide +kernel
theorem dX12_name_70 : decode cX12_name 70 = .ok (.aload_n 0, 1) := by decide +kernel
theorem dX12_name_71 : decode cX12_name 71 = .ok (.getfield 333, 3) := by decide +kernel
theorem dX12_name_74 : decode cX12_name 74 = .ok (.bipush 7, 2) := by decide +kernel
theorem dX12_name_76 : decode cX12_name 76 = .ok (.if_icmp .ne 50, 3) := by decide +kernel
theorem dX12_name_79 : decode cX12_name 79 = .ok (.aload_n 0, 1) := by decide +kernel
theorem dX12_name_80 : decode cX12_name 80 = .ok (.ldc_w 336, 3) := by decide +kernel
theorem dX12_name_83 : decode cX12_name 83 = .ok (.invokevirtual 329, 3) := by decide +kernel
theorem dX12_name_86 : decode cX12_name 86 = .ok (.ifCond .eq 8, 3) := by decide +kernel
theorem dX12_name_89 : decode cX12_name 89 = .ok (.bipush 10, 2) := by decide +kernel
theorem dX12_name_91 : decode cX12_name 91 = .ok (.goto 34, 3) := by decide +kernel
theorem dX12_name_94 : decode cX12_name 94 = .ok (.aload_n 0, 1) := by decide +kernel
theorem dX12_name_95 : decode cX12_name 95 = .ok (.ldc_w 341, 3) := by decide +kernel
theorem dX12_name_98 : decode cX12_name 98 = .ok (.invokevirtual 329, 3) := by decide +kernel
theorem dX12_name_101 : decode cX12_name 101 = .ok (.ifCond .eq 8, 3) := by decide +kernel
theorem dX12_name_104 : decode cX12_name 104 = .ok (.bipush 11, 2) := by decide +kernel
theorem dX12_name_106 : decode cX12_name 106 = .ok (.goto 19, 3) := by decide +kernel
theorem dX12_name_109 : decode cX12_name 109 = .ok (.aload_n 0, 1) := by decide +kernel
theorem dX12_name_110 : decode cX12_name 110 = .ok (.ldc_w 342, 3) := by decide +kernel
theorem dX12_name_113 : decode cX12_name 113 = .ok (.invokevirtual 329, 3) := by decide +kernel
theorem dX12_name_116 : decode cX12_name 116 = .ok (.ifCond .eq 8, 3) := by decide +kernel
theorem dX12_name_119 : decode cX12_name 119 = .ok (.bipush 12, 2) := by decide +kernel
theorem dX12_name_121 : decode cX12_name 121 = .ok (.goto 4, 3) := by decide +kernel
theorem dX12_name_124 : decode cX12_name 124 = .ok (.iconst (-1), 1) := by decide +kernel
theorem dX12_name_125 : decode cX12_name 125 = .ok (.ireturn, 1) := by decide +kernel
theorem dX12_name_126 : decode cX12_name 126 = .ok (.aload_n 0, 1) := by decide +kernel
theorem dX12_name_127 : decode cX12_name 127 = .ok (.ldc_w 344, 3) := by decide +kernel
theorem dX12_name_130 : decode cX12_name 130 = .ok (.invokevirtual 329, 3) := by decide +kernel
theorem dX12_name_133 : decode cX12_name 133 = .ok (.ifCond .eq 7, 3) := by decide +kernel
theorem dX12_name_136 : decode cX12_name 136 = .ok (.iconst 0, 1) := by decide +kernel
theorem dX12_name_137 : decode cX12_name 137 = .ok (.goto 74, 3) := by decide +kernel
theorem dX12_name_140 : decode cX12_name 140 = .ok (.aload_n 0, 1) := by decide +kernel
theorem dX12_name_141 : decode cX12_name 141 = .ok (.ldc_w 346, 3) := by decide +kernel
theorem dX12_name_144 : decode cX12_name 144 = .ok (.invokevirtual 329, 3) := by decide +kernel
theorem dX12_name_147 : decode cX12_name 147 = .ok (.ifCond .eq 7, 3) := by decide +kernel
theorem dX12_name_150 : decode cX12_name 150 = .ok (.iconst 1, 1) := by decide +kernel
theorem dX12_name_151 : decode cX12_name 151 = .ok (.goto 60, 3) := by decide +kernel
theorem dX12_name_154 : decode cX12_name 154 = .ok (.aload_n 0, 1) := by decide +kernel
theorem dX12_name_155 : decode cX12_name 155 = .ok (.ldc_w 348, 3) := by decide +kernel
theorem dX12_name_158 : decode cX12_name 158 = .ok (.invokevirtual 329, 3) := by decide +kernel
theorem dX12_name_161 : decode cX12_name 161 = .ok (.ifCond .eq 7, 3) := by decide +kernel
theorem dX12_name_164 : decode cX12_name 164 = .ok (.iconst 2, 1) := by decide +kernel
theorem dX12_name_165 : decode cX12_name 165 = .ok (.goto 46, 3) := by decide +kernel
theorem dX12_name_168 : decode cX12_name 168 = .ok (.aload_n 0, 1) := by decide +kernel
theorem dX12_name_169 : decode cX12_name 169 = .ok (.ldc_w 350, 3) := by decide +kernel
theorem dX12_name_172 : decode cX12_name 172 = .ok (.invokevirtual 329, 3) := by decide +kernel
theorem dX12_name_175 : decode cX12_name 175 = .ok (.ifCond .eq 7, 3) := by decide +kernel
theorem dX12_name_178 : decode cX12_name 178 = .ok (.iconst 3, 1) := by decide +kernel
theorem dX12_name_179 : decode cX12_name 179 = .ok (.goto 32, 3) := by decide +kernel
theorem dX12_name_182 : decode cX12_name 182 = .ok (.aload_n 0, 1) := by decide +kernel
theorem dX12_name_183 : decode cX12_name 183 = .ok (.ldc_w 352, 3) := by decide +kernel
theorem dX12_name_186 : decode cX12_name 186 = .ok (.invokevirtual 329, 3) := by decide +kernel
theorem dX12_name_189 : decode cX12_name 189 = .ok (.ifCond .eq 7, 3) := by decide +kernel
theorem dX12_name_192 : decode cX12_name 192 = .ok (.iconst 4, 1) := by decide +kernel
theorem dX12_name_193 : decode cX12_name 193 = .ok (.goto 18, 3) := by decide +kernel
theorem dX12_name_196 : decode cX12_name 196 = .ok (.aload_n 0, 1) := by decide +kernel
theorem dX12_name_197 : decode cX12_name 197 = .ok (.ldc_w 342, 3) := by decide +kernel
theorem dX12_name_200 : decode cX12_name 200 = .ok (.invokevirtual 329, 3) := by decide +kernel
theorem dX12_name_203 : decode cX12_name 203 = .ok (.ifCond .eq 7, 3) := by decide +kernel
theorem dX12_name_206 : decode cX12_name 206 = .ok (.iconst 5, 1) := by decide +kernel
theorem dX12_name_207 : decode cX12_name 207 = .ok (.goto 4, 3) := by decide +kernel
theorem dX12_name_210 : decode cX12_name 210 = .ok (.iconst (-1), 1) := by decide +kernel
theorem dX12_name_211 : decode cX12_name 211 = .ok (.ireturn, 1) := by decide +kernel
theorem dX12_emits_0 : decode cX12_emits 0 = .ok (.aload_n 0, 1) := by decide +kernel
theorem dX12_emits_1 : decode cX12_emits 1 = .ok (.invokevirtual 316, 3) := by decide +kernel
theorem dX12_emits_4 : decode cX12_emits 4 = .ok (.ifCond .ne 4, 3) := by decide +kernel
theorem dX12_emits_7 : decode cX12_emits 7 = .ok (.return_, 1) := by decide +kernel
theorem dX12_emits_8 : decode cX12_emits 8 = .ok (.aload_n 0, 1) := by decide +kernel
theorem dX12_emits_9 : decode cX12_emits 9 = .ok (.getfield 111, 3) := by decide +kernel
theorem dX12_emits_12 : decode cX12_emits 12 = .ok (.sipush 3200, 3) := by decide +kernel
theorem dX12_emits_15 : decode cX12_emits 15 = .ok (.aload_n 0, 1) := by decide +kernel
theorem dX12_emits_16 : decode cX12_emits 16 = .ok (.getfield 114, 3) := by decide +kernel
theorem dX12_emits_19 : decode cX12_emits 19 = .ok (.bipush 10, 2) := by decide +kernel
theorem dX12_emits_21 : decode cX12_emits 21 = .ok (.iaload, 1) := by decide +kernel
theorem dX12_emits_22 : decode cX12_emits 22 = .ok (.iadd, 1) := by decide +kernel
theorem dX12_emits_23 : decode cX12_emits 23 = .ok (.iload_n 1, 1) := by decide +kernel
theorem dX12_emits_24 : decode cX12_emits 24 = .ok (.iastore, 1) := by decide +kernel
theorem dX12_emits_25 : decode cX12_emits 25 = .ok (.aload_n 0, 1) := by decide +kernel
theorem dX12_emits_26 : decode cX12_emits 26 = .ok (.getfield 114, 3) := by decide +kernel
theorem dX12_emits_29 : decode cX12_emits 29 = .ok (.bipush 10, 2) := by decide +kernel
theorem dX12_emits_31 : decode cX12_emits 31 = .ok (.dup2, 1) := by decide +kernel
theorem dX12_emits_32 : decode cX12_emits 32 = .ok (.iaload, 1) := by decide +kernel
theorem dX12_emits_33 : decode cX12_emits 33 = .ok (.iconst 1, 1) := by decide +kernel
theorem dX12_emits_34 : decode cX12_emits 34 = .ok (.iadd, 1) := by decide +kernel
theorem dX12_emits_35 : decode cX12_emits 35 = .ok (.iastore, 1) := by decide +kernel
theorem dX12_emits_36 : decode cX12_emits 36 = .ok (.return_, 1) := by decide +kernel
theorem dX12_opens_0 : decode cX12_opens 0 = .ok (.aload_n 0, 1) := by decide +kernel
theorem dX12_opens_1 : decode cX12_opens 1 = .ok (.getfield 354, 3) := by decide +kernel
theorem dX12_opens_4 : decode cX12_opens 4 = .ok (.iconst 4, 1) := by decide +kernel
theorem dX12_opens_5 : decode cX12_opens 5 = .ok (.if_icmp .ne 8, 3) := by decide +kernel
theorem dX12_opens_8 : decode cX12_opens 8 = .ok (.aload_n 0, 1) := by decide +kernel
theorem dX12_opens_9 : decode cX12_opens 9 = .ok (.iconst 4, 1) := by decide +kernel
theorem dX12_opens_10 : decode cX12_opens 10 = .ok (.invokevirtual 325, 3) := by decide +kernel
theorem dX12_opens_13 : decode cX12_opens 13 = .ok (.aload_n 0, 1) := by decide +kernel
theorem dX12_opens_14 : decode cX12_opens 14 = .ok (.invokevirtual 316, 3) := by decide +kernel
theorem dX12_opens_17 : decode cX12_opens 17 = .ok (.ifCond .ne 4, 3) := by decide +kernel
theorem dX12_opens_20 : decode cX12_opens 20 = .ok (.return_, 1) := by decide +kernel
theorem dX12_opens_21 : decode cX12_opens 21 = .ok (.aload_n 0, 1) := by decide +kernel
theorem dX12_opens_22 : decode cX12_opens 22 = .ok (.dup, 1) := by decide +kernel
theorem dX12_opens_23 : decode cX12_opens 23 = .ok (.getfield 354, 3) := by decide +kernel
theorem dX12_opens_26 : decode cX12_opens 26 = .ok (.iconst 1, 1) := by decide +kernel
theorem dX12_opens_27 : decode cX12_opens 27 = .ok (.iadd, 1) := by decide +kernel
theorem dX12_opens_28 : decode cX12_opens 28 = .ok (.putfield 354, 3) := by decide +kernel
theorem dX12_opens_31 : decode cX12_opens 31 = .ok (.aload_n 0, 1) := by decide +kernel
theorem dX12_opens_32 : decode cX12_opens 32 = .ok (.invokevirtual 322, 3) := by decide +kernel
theorem dX12_opens_35 : decode cX12_opens 35 = .ok (.return_, 1) := by decide +kernel
theorem dX12_factor_0 : decode cX12_factor 0 = .ok (.aload_n 0, 1) := by decide +kernel
theorem dX12_factor_1 : decode cX12_factor 1 = .ok (.invokevirtual 316, 3) := by decide +kernel
theorem dX12_factor_4 : decode cX12_factor 4 = .ok (.ifCond .ne 4, 3) := by decide +kernel
theorem dX12_factor_7 : decode cX12_factor 7 = .ok (.return_, 1) := by decide +kernel
theorem dX12_factor_8 : decode cX12_factor 8 = .ok (.aload_n 0, 1) := by decide +kernel
theorem dX12_factor_9 : decode cX12_factor 9 = .ok (.getfield 285, 3) := by decide +kernel
theorem dX12_factor_12 : decode cX12_factor 12 = .ok (.iconst 2, 1) := by decide +kernel
theorem dX12_factor_13 : decode cX12_factor 13 = .ok (.if_icmp .ne 18, 3) := by decide +kernel
theorem dX12_factor_16 : decode cX12_factor 16 = .ok (.aload_n 0, 1) := by decide +kernel
theorem dX12_factor_17 : decode cX12_factor 17 = .ok (.aload_n 0, 1) := by decide +kernel
theorem dX12_factor_18 : decode cX12_factor 18 = .ok (.getfield 288, 3) := by decide +kernel
theorem dX12_factor_21 : decode cX12_factor 21 = .ok (.invokevirtual 357, 3) := by decide +kernel
theorem dX12_factor_24 : decode cX12_factor 24 = .ok (.aload_n 0, 1) := by decide +kernel
theorem dX12_factor_25 : decode cX12_factor 25 = .ok (.invokevirtual 322, 3) := by decide +kernel
theorem dX12_factor_28 : decode cX12_factor 28 = .ok (.goto 90, 3) := by decide +kernel
theorem dX12_factor_31 : decode cX12_factor 31 = .ok (.aload_n 0, 1) := by decide +kernel
theorem dX12_factor_32 : decode cX12_factor 32 = .ok (.getfield 285, 3) := by decide +kernel
theorem dX12_factor_35 : decode cX12_factor 35 = .ok (.iconst 3, 1) := by decide +kernel
theorem dX12_factor_36 : decode cX12_factor 36 = .ok (.if_icmp .ne 41, 3) := by decide +kernel
theorem dX12_factor_39 : decode cX12_factor 39 = .ok (.aload_n 0, 1) := by decide +kernel
theorem dX12_factor_40 : decode cX12_factor 40 = .ok (.invokevirtual 360, 3) := by decide +kernel
theorem dX12_factor_43 : decode cX12_factor 43 = .ok (.istore_n 1, 1) := by decide +kernel
theorem dX12_factor_44 : decode cX12_factor 44 = .ok (.iload_n 1, 1) := by decide +kernel
theorem dX12_factor_45 : decode cX12_factor 45 = .ok (.iconst (-1), 1) := by decide +kernel
theorem dX12_factor_46 : decode cX12_factor 46 = .ok (.if_icmp .ne 8, 3) := by decide +kernel
theorem dX12_factor_49 : decode cX12_factor 49 = .ok (.aload_n 0, 1) := by decide +kernel
theorem dX12_factor_50 : decode cX12_factor 50 = .ok (.iconst 3, 1) := by decide +kernel
theorem dX12_factor_51 : decode cX12_factor 51 = .ok (.invokevirtual 325, 3) := by decide +kernel
theorem dX12_factor_54 : decode cX12_factor 54 = .ok (.aload_n 0, 1) := by decide +kernel
theorem dX12_factor_55 : decode cX12_factor 55 = .ok (.sipush 10000, 3) := by decide +kernel
theorem dX12_factor_58 : decode cX12_factor 58 = .ok (.iload_n 1, 1) := by decide +kernel
theorem dX12_factor_59 : decode cX12_factor 59 = .ok (.iadd, 1) := by decide +kernel
theorem dX12_factor_60 : decode cX12_factor 60 = .ok (.invokevirtual 357, 3) := by decide +kernel
theorem dX12_factor_63 : decode cX12_factor 63 = .ok (.aload_n 0, 1) := by decide +kernel
theorem dX12_factor_64 : decode cX12_factor 64 = .ok (.invokevirtual 316, 3) := by decide +kernel
theorem dX12_factor_67 : decode cX12_factor 67 = .ok (.ifCond .eq 7, 3) := by decide +kernel
theorem dX12_factor_70 : decode cX12_factor 70 = .ok (.aload_n 0, 1) := by decide +kernel
theorem dX12_factor_71 : decode cX12_factor 71 = .ok (.invokevirtual 322, 3) := by decide +kernel
theorem dX12_factor_74 : decode cX12_factor 74 = .ok (.goto 44, 3) := by decide +kernel
theorem dX12_factor_77 : decode cX12_factor 77 = .ok (.aload_n 0, 1) := by decide +kernel
theorem dX12_factor_78 : decode cX12_factor 78 = .ok (.bipush 40, 2) := by decide +kernel
theorem dX12_factor_80 : decode cX12_factor 80 = .ok (.invokevirtual 319, 3) := by decide +kernel
theorem dX12_factor_83 : decode cX12_factor 83 = .ok (.ifCond .eq 30, 3) := by decide +kernel
theorem dX12_factor_86 : decode cX12_factor 86 = .ok (.aload_n 0, 1) := by decide +kernel
theorem dX12_factor_87 : decode cX12_factor 87 = .ok (.invokevirtual 363, 3) := by decide +kernel
theorem dX12_factor_90 : decode cX12_factor 90 = .ok (.aload_n 0, 1) := by decide +kernel
theorem dX12_factor_91 : decode cX12_factor 91 = .ok (.invokevirtual 366, 3) := by decide +kernel
theorem dX12_factor_94 : decode cX12_factor 94 = .ok (.aload_n 0, 1) := by decide +kernel
theorem dX12_factor_95 : decode cX12_factor 95 = .ok (.bipush 41, 2) := by decide +kernel
theorem dX12_factor_97 : decode cX12_factor 97 = .ok (.invokevirtual 369, 3) := by decide +kernel
theorem dX12_factor_100 : decode cX12_factor 100 = .ok (.aload_n 0, 1) := by decide +kernel
theorem dX12_factor_101 : decode cX12_factor 101 = .ok (.dup, 1) := by decide +kernel
theorem dX12_factor_102 : decode cX12_factor 102 = .ok (.getfield 354, 3) := by decide +kernel
theorem dX12_factor_105 : decode cX12_factor 105 = .ok (.iconst 1, 1) := by decide +kernel
theorem dX12_factor_106 : decode cX12_factor 106 = .ok (.isub, 1) := by decide +kernel
theorem dX12_factor_107 : decode cX12_factor 107 = .ok (.putfield 354, 3) := by decide +kernel
theorem dX12_factor_110 : decode cX12_factor 110 = .ok (.goto 8, 3) := by decide +kernel
theorem dX12_factor_113 : decode cX12_factor 113 = .ok (.aload_n 0, 1) := by decide +kernel
theorem dX12_factor_114 : decode cX12_factor 114 = .ok (.iconst 1, 1) := by decide +kernel
theorem dX12_factor_115 : decode cX12_factor 115 = .ok (.invokevirtual 325, 3) := by decide +kernel
theorem dX12_factor_118 : decode cX12_factor 118 = .ok (.return_, 1) := by decide +kernel
theorem dX12_product_0 : decode cX12_product 0 = .ok (.aload_n 0, 1) := by decide +kernel
theorem dX12_product_1 : decode cX12_product 1 = .ok (.invokevirtual 372, 3) := by decide +kernel
theorem dX12_product_4 : decode cX12_product 4 = .ok (.aload_n 0, 1) := by decide +kernel
theorem dX12_product_5 : decode cX12_product 5 = .ok (.invokevirtual 316, 3) := by decide +kernel
theorem dX12_product_8 : decode cX12_product 8 = .ok (.ifCond .eq 54, 3) := by decide +kernel
theorem dX12_product_11 : decode cX12_product 11 = .ok (.aload_n 0, 1) := by decide +kernel
theorem dX12_product_12 : decode cX12_product 12 = .ok (.bipush 42, 2) := by decide +kernel
theorem dX12_product_14 : decode cX12_product 14 = .ok (.invokevirtual 319, 3) := by decide +kernel
theorem dX12_product_17 : decode cX12_product 17 = .ok (.ifCond .ne 12, 3) := by decide +kernel
theorem dX12_product_20 : decode cX12_product 20 = .ok (.aload_n 0, 1) := by decide +kernel
theorem dX12_product_21 : decode cX12_product 21 = .ok (.bipush 47, 2) := by decide +kernel
theorem dX12_product_23 : decode cX12_product 23 = .ok (.invokevirtual 319, 3) := by decide +kernel
theorem dX12_product_26 : decode cX12_product 26 = .ok (.ifCond .eq 36, 3) := by decide +kernel
theorem dX12_product_29 : decode cX12_product 29 = .ok (.aload_n 0, 1) := by decide +kernel
theorem dX12_product_30 : decode cX12_product 30 = .ok (.bipush 42, 2) := by decide +kernel
theorem dX12_product_32 : decode cX12_product 32 = .ok (.invokevirtual 319, 3) := by decide +kernel
theorem dX12_product_35 : decode cX12_product 35 = .ok (.istore_n 1, 1) := by decide +kernel
theorem dX12_product_36 : decode cX12_product 36 = .ok (.aload_n 0, 1) := by decide +kernel
theorem dX12_product_37 : decode cX12_product 37 = .ok (.invokevirtual 322, 3) := by decide +kernel
theorem dX12_product_40 : decode cX12_product 40 = .ok (.aload_n 0, 1) := by decide +kernel
theorem dX12_product_41 : decode cX12_product 41 = .ok (.invokevirtual 372, 3) := by decide +kernel
theorem dX12_product_44 : decode cX12_product 44 = .ok (.aload_n 0, 1) := by decide +kernel
theorem dX12_product_45 : decode cX12_product 45 = .ok (.iload_n 1, 1) := by decide +kernel
theorem dX12_product_46 : decode cX12_product 46 = .ok (.ifCond .eq 8, 3) := by decide +kernel
theorem dX12_product_49 : decode cX12_product 49 = .ok (.bipush (-3), 2) := by decide +kernel
theorem dX12_product_51 : decode cX12_product 51 = .ok (.goto 5, 3) := by decide +kernel
theorem dX12_product_54 : decode cX12_product 54 = .ok (.bipush (-10), 2) := by decide +kernel
theorem dX12_product_56 : decode cX12_product 56 = .ok (.invokevirtual 357, 3) := by decide +kernel
theorem dX12_product_59 : decode cX12_product 59 = .ok (.goto (-55), 3) := by decide +kernel
theorem dX12_product_62 : decode cX12_product 62 = .ok (.return_, 1) := by decide +kernel
theorem dX12_sum_0 : decode cX12_sum 0 = .ok (.aload_n 0, 1) := by decide +kernel
theorem dX12_sum_1 : decode cX12_sum 1 = .ok (.invokevirtual 375, 3) := by decide +kernel
theorem dX12_sum_4 : decode cX12_sum 4 = .ok (.aload_n 0, 1) := by decide +kernel
theorem dX12_sum_5 : decode cX12_sum 5 = .ok (.invokevirtual 316, 3) := by decide +kernel
theorem dX12_sum_8 : decode cX12_sum 8 = .ok (.ifCond .eq 53, 3) := by decide +kernel
theorem dX12_sum_11 : decode cX12_sum 11 = .ok (.aload_n 0, 1) := by decide +kernel
theorem dX12_sum_12 : decode cX12_sum 12 = .ok (.bipush 43, 2) := by decide +kernel
theorem dX12_sum_14 : decode cX12_sum 14 = .ok (.invokevirtual 319, 3) := by decide +kernel
theorem dX12_sum_17 : decode cX12_sum 17 = .ok (.ifCond .ne 12, 3) := by decide +kernel
theorem dX12_sum_20 : decode cX12_sum 20 = .ok (.aload_n 0, 1) := by decide +kernel
theorem dX12_sum_21 : decode cX12_sum 21 = .ok (.bipush 45, 2) := by decide +kernel
theorem dX12_sum_23 : decode cX12_sum 23 = .ok (.invokevirtual 319, 3) := by decide +kernel
theorem dX12_sum_26 : decode cX12_sum 26 = .ok (.ifCond .eq 35, 3) := by decide +kernel
theorem dX12_sum_29 : decode cX12_sum 29 = .ok (.aload_n 0, 1) := by decide +kernel
theorem dX12_sum_30 : decode cX12_sum 30 = .ok (.bipush 43, 2) := by decide +kernel
theorem dX12_sum_32 : decode cX12_sum 32 = .ok (.invokevirtual 319, 3) := by decide +kernel
theorem dX12_sum_35 : decode cX12_sum 35 = .ok (.istore_n 1, 1) := by decide +kernel
theorem dX12_sum_36 : decode cX12_sum 36 = .ok (.aload_n 0, 1) := by decide +kernel
theorem dX12_sum_37 : decode cX12_sum 37 = .ok (.invokevirtual 322, 3) := by decide +kernel
theorem dX12_sum_40 : decode cX12_sum 40 = .ok (.aload_n 0, 1) := by decide +kernel
theorem dX12_sum_41 : decode cX12_sum 41 = .ok (.invokevirtual 375, 3) := by decide +kernel
theorem dX12_sum_44 : decode cX12_sum 44 = .ok (.aload_n 0, 1) := by decide +kernel
theorem dX12_sum_45 : decode cX12_sum 45 = .ok (.iload_n 1, 1) := by decide +kernel
theorem dX12_sum_46 : decode cX12_sum 46 = .ok (.ifCond .eq 7, 3) := by decide +kernel
theorem dX12_sum_49 : decode cX12_sum 49 = .ok (.iconst (-1), 1) := by decide +kernel
theorem dX12_sum_50 : decode cX12_sum 50 = .ok (.goto 5, 3) := by decide +kernel
theorem dX12_sum_53 : decode cX12_sum 53 = .ok (.bipush (-2), 2) := by decide +kernel
theorem dX12_sum_55 : decode cX12_sum 55 = .ok (.invokevirtual 357, 3) := by decide +kernel
theorem dX12_sum_58 : decode cX12_sum 58 = .ok (.goto (-54), 3) := by decide +kernel
theorem dX12_sum_61 : decode cX12_sum 61 = .ok (.return_, 1) := by decide +kernel
theorem dX12_compares_0 : decode cX12_compares 0 = .ok (.aload_n 0, 1) := by decide +kernel
theorem dX12_compares_1 : decode cX12_compares 1 = .ok (.invokevirtual 366, 3) := by decide +kernel
theorem dX12_compares_4 : decode cX12_compares 4 = .ok (.aload_n 0, 1) := by decide +kernel
theorem dX12_compares_5 : decode cX12_compares 5 = .ok (.invokevirtual 316, 3) := by decide +kernel
theorem dX12_compares_8 : decode cX12_compares 8 = .ok (.ifCond .ne 4, 3) := by decide +kernel
theorem dX12_compares_11 : decode cX12_compares 11 = .ok (.return_, 1) := by decide +kernel
theorem dX12_compares_12 : decode cX12_compares 12 = .ok (.aload_n 0, 1) := by decide +kernel
theorem dX12_compares_13 : decode cX12_compares 13 = .ok (.bipush 60, 2) := by decide +kernel
theorem dX12_compares_15 : decode cX12_compares 15 = .ok (.invokevirtual 319, 3) := by decide +kernel
theorem dX12_compares_18 : decode cX12_compares 18 = .ok (.ifCond .eq 8, 3) := by decide +kernel
theorem dX12_compares_21 : decode cX12_compares 21 = .ok (.bipush (-4), 2) := by decide +kernel
theorem dX12_compares_23 : decode cX12_compares 23 = .ok (.goto 32, 3) := by decide +kernel
theorem dX12_compares_26 : decode cX12_compares 26 = .ok (.aload_n 0, 1) := by decide +kernel
theorem dX12_compares_27 : decode cX12_compares 27 = .ok (.bipush 62, 2) := by decide +kernel
theorem dX12_compares_29 : decode cX12_compares 29 = .ok (.invokevirtual 319, 3) := by decide +kernel
theorem dX12_compares_32 : decode cX12_compares 32 = .ok (.ifCond .eq 8, 3) := by decide +kernel
theorem dX12_compares_35 : decode cX12_compares 35 = .ok (.bipush (-5), 2) := by decide +kernel
theorem dX12_compares_37 : decode cX12_compares 37 = .ok (.goto 18, 3) := by decide +kernel
theorem dX12_compares_40 : decode cX12_compares 40 = .ok (.aload_n 0, 1) := by decide +kernel
theorem dX12_compares_41 : decode cX12_compares 41 = .ok (.bipush 61, 2) := by decide +kernel
theorem dX12_compares_43 : decode cX12_compares 43 = .ok (.invokevirtual 319, 3) := by decide +kernel
theorem dX12_compares_46 : decode cX12_compares 46 = .ok (.ifCond .eq 8, 3) := by decide +kernel
theorem dX12_compares_49 : decode cX12_compares 49 = .ok (.bipush (-6), 2) := by decide +kernel
theorem dX12_compares_51 : decode cX12_compares 51 = .ok (.goto 4, 3) := by decide +kernel
theorem dX12_compares_54 : decode cX12_compares 54 = .ok (.iconst 0, 1) := by decide +kernel
theorem dX12_compares_55 : decode cX12_compares 55 = .ok (.istore_n 1, 1) := by decide +kernel
theorem dX12_compares_56 : decode cX12_compares 56 = .ok (.iload_n 1, 1) := by decide +kernel
theorem dX12_compares_57 : decode cX12_compares 57 = .ok (.ifCond .ne 8, 3) := by decide +kernel
theorem dX12_compares_60 : decode cX12_compares 60 = .ok (.aload_n 0, 1) := by decide +kernel
theorem dX12_compares_61 : decode cX12_compares 61 = .ok (.iconst 1, 1) := by decide +kernel
theorem dX12_compares_62 : decode cX12_compares 62 = .ok (.invokevirtual 325, 3) := by decide +kernel
theorem dX12_compares_65 : decode cX12_compares 65 = .ok (.aload_n 0, 1) := by decide +kernel
theorem dX12_compares_66 : decode cX12_compares 66 = .ok (.invokevirtual 316, 3) := by decide +kernel
theorem dX12_compares_69 : decode cX12_compares 69 = .ok (.ifCond .ne 4, 3) := by decide +kernel
theorem dX12_compares_72 : decode cX12_compares 72 = .ok (.return_, 1) := by decide +kernel
theorem dX12_compares_73 : decode cX12_compares 73 = .ok (.aload_n 0, 1) := by decide +kernel
theorem dX12_compares_74 : decode cX12_compares 74 = .ok (.invokevirtual 322, 3) := by decide +kernel
theorem dX12_compares_77 : decode cX12_compares 77 = .ok (.aload_n 0, 1) := by decide +kernel
theorem dX12_compares_78 : decode cX12_compares 78 = .ok (.invokevirtual 366, 3) := by decide +kernel
theorem dX12_compares_81 : decode cX12_compares 81 = .ok (.aload_n 0, 1) := by decide +kernel
theorem dX12_compares_82 : decode cX12_compares 82 = .ok (.iload_n 1, 1) := by decide +kernel
theorem dX12_compares_83 : decode cX12_compares 83 = .ok (.invokevirtual 357, 3) := by decide +kernel
theorem dX12_compares_86 : decode cX12_compares 86 = .ok (.return_, 1) := by decide +kernel
theorem dX12_part_0 : decode cX12_part 0 = .ok (.iconst 0, 1) := by decide +kernel
theorem dX12_part_1 : decode cX12_part 1 = .ok (.istore_n 1, 1) := by decide +kernel
theorem dX12_part_2 : decode cX12_part 2 = .ok (.aload_n 0, 1) := by decide +kernel
theorem dX12_part_3 : decode cX12_part 3 = .ok (.invokevirtual 316, 3) := by decide +kernel
theorem dX12_part_6 : decode cX12_part 6 = .ok (.ifCond .eq 30, 3) := by decide +kernel
theorem dX12_part_9 : decode cX12_part 9 = .ok (.aload_n 0, 1) := by decide +kernel
theorem dX12_part_10 : decode cX12_part 10 = .ok (.ldc_w 378, 3) := by decide +kernel
theorem dX12_part_13 : decode cX12_part 13 = .ok (.invokevirtual 329, 3) := by decide +kernel
theorem dX12_part_16 : decode cX12_part 16 = .ok (.ifCond .eq 20, 3) := by decide +kernel
theorem dX12_part_19 : decode cX12_part 19 = .ok (.aload_n 0, 1) := by decide +kernel
theorem dX12_part_20 : decode cX12_part 20 = .ok (.invokevirtual 322, 3) := by decide +kernel
theorem dX12_part_23 : decode cX12_part 23 = .ok (.iload_n 1, 1) := by decide +kernel
theorem dX12_part_24 : decode cX12_part 24 = .ok (.ifCond .ne 7, 3) := by decide +kernel
theorem dX12_part_27 : decode cX12_part 27 = .ok (.iconst 1, 1) := by decide +kernel
theorem dX12_part_28 : decode cX12_part 28 = .ok (.goto 4, 3) := by decide +kernel
theorem dX12_part_31 : decode cX12_part 31 = .ok (.iconst 0, 1) := by decide +kernel
theorem dX12_part_32 : decode cX12_part 32 = .ok (.istore_n 1, 1) := by decide +kernel
theorem dX12_part_33 : decode cX12_part 33 = .ok (.goto (-31), 3) := by decide +kernel
theorem dX12_part_36 : decode cX12_part 36 = .ok (.aload_n 0, 1) := by decide +kernel
theorem dX12_part_37 : decode cX12_part 37 = .ok (.invokevirtual 316, 3) := by decide +kernel
theorem dX12_part_40 : decode cX12_part 40 = .ok (.ifCond .ne 4, 3) := by decide +kernel
theorem dX12_part_43 : decode cX12_part 43 = .ok (.return_, 1) := by decide +kernel
theorem dX12_part_44 : decode cX12_part 44 = .ok (.aload_n 0, 1) := by decide +kernel
theorem dX12_part_45 : decode cX12_part 45 = .ok (.bipush 91, 2) := by decide +kernel
theorem dX12_part_47 : decode cX12_part 47 = .ok (.invokevirtual 319, 3) := by decide +kernel
theorem dX12_part_50 : decode cX12_part 50 = .ok (.ifCond .eq 30, 3) := by decide +kernel
theorem dX12_part_53 : decode cX12_part 53 = .ok (.aload_n 0, 1) := by decide +kernel
theorem dX12_part_54 : decode cX12_part 54 = .ok (.invokevirtual 363, 3) := by decide +kernel
theorem dX12_part_57 : decode cX12_part 57 = .ok (.aload_n 0, 1) := by decide +kernel
theorem dX12_part_58 : decode cX12_part 58 = .ok (.invokevirtual 380, 3) := by decide +kernel
theorem dX12_part_61 : decode cX12_part 61 = .ok (.aload_n 0, 1) := by decide +kernel
theorem dX12_part_62 : decode cX12_part 62 = .ok (.bipush 93, 2) := by decide +kernel
theorem dX12_part_64 : decode cX12_part 64 = .ok (.invokevirtual 369, 3) := by decide +kernel
theorem dX12_part_67 : decode cX12_part 67 = .ok (.aload_n 0, 1) := by decide +kernel
theorem dX12_part_68 : decode cX12_part 68 = .ok (.dup, 1) := by decide +kernel
theorem dX12_part_69 : decode cX12_part 69 = .ok (.getfield 354, 3) := by decide +kernel
theorem dX12_part_72 : decode cX12_part 72 = .ok (.iconst 1, 1) := by decide +kernel
theorem dX12_part_73 : decode cX12_part 73 = .ok (.isub, 1) := by decide +kernel
theorem dX12_part_74 : decode cX12_part 74 = .ok (.putfield 354, 3) := by decide +kernel
theorem dX12_part_77 : decode cX12_part 77 = .ok (.goto 7, 3) := by decide +kernel
theorem dX12_part_80 : decode cX12_part 80 = .ok (.aload_n 0, 1) := by decide +kernel
theorem dX12_part_81 : decode cX12_part 81 = .ok (.invokevirtual 383, 3) := by decide +kernel
theorem dX12_part_84 : decode cX12_part 84 = .ok (.iload_n 1, 1) := by decide +kernel
theorem dX12_part_85 : decode cX12_part 85 = .ok (.ifCond .eq 9, 3) := by decide +kernel
theorem dX12_part_88 : decode cX12_part 88 = .ok (.aload_n 0, 1) := by decide +kernel
theorem dX12_part_89 : decode cX12_part 89 = .ok (.bipush (-9), 2) := by decide +kernel
theorem dX12_part_91 : decode cX12_part 91 = .ok (.invokevirtual 357, 3) := by decide +kernel
theorem dX12_part_94 : decode cX12_part 94 = .ok (.return_, 1) := by decide +kernel
theorem dX12_both_0 : decode cX12_both 0 = .ok (.aload_n 0, 1) := by decide +kernel
theorem dX12_both_1 : decode cX12_both 1 = .ok (.invokevirtual 386, 3) := by decide +kernel
theorem dX12_both_4 : decode cX12_both 4 = .ok (.aload_n 0, 1) := by decide +kernel
theorem dX12_both_5 : decode cX12_both 5 = .ok (.invokevirtual 316, 3) := by decide +kernel
theorem dX12_both_8 : decode cX12_both 8 = .ok (.ifCond .eq 30, 3) := by decide +kernel
theorem dX12_both_11 : decode cX12_both 11 = .ok (.aload_n 0, 1) := by decide +kernel
theorem dX12_both_12 : decode cX12_both 12 = .ok (.ldc_w 389, 3) := by decide +kernel
theorem dX12_both_15 : decode cX12_both 15 = .ok (.invokevirtual 329, 3) := by decide +kernel
theorem dX12_both_18 : decode cX12_both 18 = .ok (.ifCond .eq 20, 3) := by decide +kernel
theorem dX12_both_21 : decode cX12_both 21 = .ok (.aload_n 0, 1) := by decide +kernel
theorem dX12_both_22 : decode cX12_both 22 = .ok (.invokevirtual 322, 3) := by decide +kernel
theorem dX12_both_25 : decode cX12_both 25 = .ok (.aload_n 0, 1) := by decide +kernel
theorem dX12_both_26 : decode cX12_both 26 = .ok (.invokevirtual 386, 3) := by decide +kernel
theorem dX12_both_29 : decode cX12_both 29 = .ok (.aload_n 0, 1) := by decide +kernel
theorem dX12_both_30 : decode cX12_both 30 = .ok (.bipush (-7), 2) := by decide +kernel
theorem dX12_both_32 : decode cX12_both 32 = .ok (.invokevirtual 357, 3) := by decide +kernel
theorem dX12_both_35 : decode cX12_both 35 = .ok (.goto (-31), 3) := by decide +kernel
theorem dX12_both_38 : decode cX12_both 38 = .ok (.return_, 1) := by decide +kernel
theorem dX12_cond_0 : decode cX12_cond 0 = .ok (.aload_n 0, 1) := by decide +kernel
theorem dX12_cond_1 : decode cX12_cond 1 = .ok (.invokevirtual 391, 3) := by decide +kernel
theorem dX12_cond_4 : decode cX12_cond 4 = .ok (.aload_n 0, 1) := by decide +kernel
theorem dX12_cond_5 : decode cX12_cond 5 = .ok (.invokevirtual 316, 3) := by decide +kernel
theorem dX12_cond_8 : decode cX12_cond 8 = .ok (.ifCond .eq 30, 3) := by decide +kernel
theorem dX12_cond_11 : decode cX12_cond 11 = .ok (.aload_n 0, 1) := by decide +kernel
theorem dX12_cond_12 : decode cX12_cond 12 = .ok (.ldc_w 394, 3) := by decide +kernel
theorem dX12_cond_15 : decode cX12_cond 15 = .ok (.invokevirtual 329, 3) := by decide +kernel
theorem dX12_cond_18 : decode cX12_cond 18 = .ok (.ifCond .eq 20, 3) := by decide +kernel
theorem dX12_cond_21 : decode cX12_cond 21 = .ok (.aload_n 0, 1) := by decide +kernel
theorem dX12_cond_22 : decode cX12_cond 22 = .ok (.invokevirtual 322, 3) := by decide +kernel
theorem dX12_cond_25 : decode cX12_cond 25 = .ok (.aload_n 0, 1) := by decide +kernel
theorem dX12_cond_26 : decode cX12_cond 26 = .ok (.invokevirtual 391, 3) := by decide +kernel
theorem dX12_cond_29 : decode cX12_cond 29 = .ok (.aload_n 0, 1) := by decide +kernel
theorem dX12_cond_30 : decode cX12_cond 30 = .ok (.bipush (-8), 2) := by decide +kernel
theorem dX12_cond_32 : decode cX12_cond 32 = .ok (.invokevirtual 357, 3) := by decide +kernel
theorem dX12_cond_35 : decode cX12_cond 35 = .ok (.goto (-31), 3) := by decide +kernel
theorem dX12_cond_38 : decode cX12_cond 38 = .ok (.return_, 1) := by decide +kernel
theorem dX12_readNumber_0 : decode cX12_readNumber 0 = .ok (.aload_n 0, 1) := by decide +kernel
theorem dX12_readNumber_1 : decode cX12_readNumber 1 = .ok (.invokevirtual 316, 3) := by decide +kernel
theorem dX12_readNumber_4 : decode cX12_readNumber 4 = .ok (.ifCond .eq 16, 3) := by decide +kernel
theorem dX12_readNumber_7 : decode cX12_readNumber 7 = .ok (.aload_n 0, 1) := by decide +kernel
theorem dX12_readNumber_8 : decode cX12_readNumber 8 = .ok (.getfield 285, 3) := by decide +kernel
theorem dX12_readNumber_11 : decode cX12_readNumber 11 = .ok (.iconst 2, 1) := by decide +kernel
theorem dX12_readNumber_12 : decode cX12_readNumber 12 = .ok (.if_icmp .eq 8, 3) := by decide +kernel
theorem dX12_readNumber_15 : decode cX12_readNumber 15 = .ok (.aload_n 0, 1) := by decide +kernel
theorem dX12_readNumber_16 : decode cX12_readNumber 16 = .ok (.iconst 1, 1) := by decide +kernel
theorem dX12_readNumber_17 : decode cX12_readNumber 17 = .ok (.invokevirtual 325, 3) := by decide +kernel
theorem dX12_readNumber_20 : decode cX12_readNumber 20 = .ok (.aload_n 0, 1) := by decide +kernel
theorem dX12_readNumber_21 : decode cX12_readNumber 21 = .ok (.invokevirtual 316, 3) := by decide +kernel
theorem dX12_readNumber_24 : decode cX12_readNumber 24 = .ok (.ifCond .eq 20, 3) := by decide +kernel
theorem dX12_readNumber_27 : decode cX12_readNumber 27 = .ok (.aload_n 0, 1) := by decide +kernel
theorem dX12_readNumber_28 : decode cX12_readNumber 28 = .ok (.getfield 288, 3) := by decide +kernel
theorem dX12_readNumber_31 : decode cX12_readNumber 31 = .ok (.iconst 1, 1) := by decide +kernel
theorem dX12_readNumber_32 : decode cX12_readNumber 32 = .ok (.iload_n 1, 1) := by decide +kernel
theorem dX12_readNumber_33 : decode cX12_readNumber 33 = .ok (.invokestatic 215, 3) := by decide +kernel
theorem dX12_readNumber_36 : decode cX12_readNumber 36 = .ok (.ifCond .ne 8, 3) := by decide +kernel
theorem dX12_readNumber_39 : decode cX12_readNumber 39 = .ok (.aload_n 0, 1) := by decide +kernel
theorem dX12_readNumber_40 : decode cX12_readNumber 40 = .ok (.iconst 2, 1) := by decide +kernel
theorem dX12_readNumber_41 : decode cX12_readNumber 41 = .ok (.invokevirtual 325, 3) := by decide +kernel
theorem dX12_readNumber_44 : decode cX12_readNumber 44 = .ok (.aload_n 0, 1) := by decide +kernel
theorem dX12_readNumber_45 : decode cX12_readNumber 45 = .ok (.invokevirtual 316, 3) := by decide +kernel
theorem dX12_readNumber_48 : decode cX12_readNumber 48 = .ok (.ifCond .ne 5, 3) := by decide +kernel
theorem dX12_readNumber_51 : decode cX12_readNumber 51 = .ok (.iconst 0, 1) := by decide +kernel
theorem dX12_readNumber_52 : decode cX12_readNumber 52 = .ok (.ireturn, 1) := by decide +kernel
theorem dX12_readNumber_53 : decode cX12_readNumber 53 = .ok (.aload_n 0, 1) := by decide +kernel
theorem dX12_readNumber_54 : decode cX12_readNumber 54 = .ok (.getfield 288, 3) := by decide +kernel
theorem dX12_readNumber_57 : decode cX12_readNumber 57 = .ok (.istore_n 2, 1) := by decide +kernel
theorem dX12_readNumber_58 : decode cX12_readNumber 58 = .ok (.aload_n 0, 1) := by decide +kernel
theorem dX12_readNumber_59 : decode cX12_readNumber 59 = .ok (.invokevirtual 322, 3) := by decide +kernel
theorem dX12_readNumber_62 : decode cX12_readNumber 62 = .ok (.iload_n 2, 1) := by decide +kernel
theorem dX12_readNumber_63 : decode cX12_readNumber 63 = .ok (.ireturn, 1) := by decide +kernel
theorem dX12_clauseKind_0 : decode cX12_clauseKind 0 = .ok (.aload_n 0, 1) := by decide +kernel
theorem dX12_clauseKind_1 : decode cX12_clauseKind 1 = .ok (.ldc_w 396, 3) := by decide +kernel
theorem dX12_clauseKind_4 : decode cX12_clauseKind 4 = .ok (.invokevirtual 329, 3) := by decide +kernel
theorem dX12_clauseKind_7 : decode cX12_clauseKind 7 = .ok (.ifCond .eq 7, 3) := by decide +kernel
theorem dX12_clauseKind_10 : decode cX12_clauseKind 10 = .ok (.iconst 0, 1) := by decide +kernel
theorem dX12_clauseKind_11 : decode cX12_clauseKind 11 = .ok (.goto 76, 3) := by decide +kernel
theorem dX12_clauseKind_14 : decode cX12_clauseKind 14 = .ok (.aload_n 0, 1) := by decide +kernel
theorem dX12_clauseKind_15 : decode cX12_clauseKind 15 = .ok (.ldc_w 398, 3) := by decide +kernel
theorem dX12_clauseKind_18 : decode cX12_clauseKind 18 = .ok (.invokevirtual 329, 3) := by decide +kernel
theorem dX12_clauseKind_21 : decode cX12_clauseKind 21 = .ok (.ifCond .eq 7, 3) := by decide +kernel
theorem dX12_clauseKind_24 : decode cX12_clauseKind 24 = .ok (.iconst 3, 1) := by decide +kernel
theorem dX12_clauseKind_25 : decode cX12_clauseKind 25 = .ok (.goto 62, 3) := by decide +kernel
theorem dX12_clauseKind_28 : decode cX12_clauseKind 28 = .ok (.aload_n 0, 1) := by decide +kernel
theorem dX12_clauseKind_29 : decode cX12_clauseKind 29 = .ok (.ldc_w 400, 3) := by decide +kernel
theorem dX12_clauseKind_32 : decode cX12_clauseKind 32 = .ok (.invokevirtual 329, 3) := by decide +kernel
theorem dX12_clauseKind_35 : decode cX12_clauseKind 35 = .ok (.ifCond .eq 7, 3) := by decide +kernel
theorem dX12_clauseKind_38 : decode cX12_clauseKind 38 = .ok (.iconst 4, 1) := by decide +kernel
theorem dX12_clauseKind_39 : decode cX12_clauseKind 39 = .ok (.goto 48, 3) := by decide +kernel
theorem dX12_clauseKind_42 : decode cX12_clauseKind 42 = .ok (.aload_n 0, 1) := by decide +kernel
theorem dX12_clauseKind_43 : decode cX12_clauseKind 43 = .ok (.ldc_w 402, 3) := by decide +kernel
theorem dX12_clauseKind_46 : decode cX12_clauseKind 46 = .ok (.invokevirtual 329, 3) := by decide +kernel
theorem dX12_clauseKind_49 : decode cX12_clauseKind 49 = .ok (.ifCond .eq 7, 3) := by decide +kernel
theorem dX12_clauseKind_52 : decode cX12_clauseKind 52 = .ok (.iconst 5, 1) := by decide +kernel
theorem dX12_clauseKind_53 : decode cX12_clauseKind 53 = .ok (.goto 34, 3) := by decide +kernel
theorem dX12_clauseKind_56 : decode cX12_clauseKind 56 = .ok (.aload_n 0, 1) := by decide +kernel
theorem dX12_clauseKind_57 : decode cX12_clauseKind 57 = .ok (.ldc_w 403, 3) := by decide +kernel
theorem dX12_clauseKind_60 : decode cX12_clauseKind 60 = .ok (.invokevirtual 329, 3) := by decide +kernel
theorem dX12_clauseKind_63 : decode cX12_clauseKind 63 = .ok (.ifCond .eq 8, 3) := by decide +kernel
theorem dX12_clauseKind_66 : decode cX12_clauseKind 66 = .ok (.bipush 6, 2) := by decide +kernel
theorem dX12_clauseKind_68 : decode cX12_clauseKind 68 = .ok (.goto 19, 3) := by decide +kernel
theorem dX12_clauseKind_71 : decode cX12_clauseKind 71 = .ok (.aload_n 0, 1) := by decide +kernel
theorem dX12_clauseKind_72 : decode cX12_clauseKind 72 = .ok (.ldc_w 405, 3) := by decide +kernel
theorem dX12_clauseKind_75 : decode cX12_clauseKind 75 = .ok (.invokevirtual 329, 3) := by decide +kernel
theorem dX12_clauseKind_78 : decode cX12_clauseKind 78 = .ok (.ifCond .eq 8, 3) := by decide +kernel
theorem dX12_clauseKind_81 : decode cX12_clauseKind 81 = .ok (.bipush 7, 2) := by decide +kernel
theorem dX12_clauseKind_83 : decode cX12_clauseKind 83 = .ok (.goto 4, 3) := by decide +kernel
theorem dX12_clauseKind_86 : decode cX12_clauseKind 86 = .ok (.iconst (-1), 1) := by decide +kernel
theorem dX12_clauseKind_87 : decode cX12_clauseKind 87 = .ok (.ireturn, 1) := by decide +kernel
theorem dX12_readClause_0 : decode cX12_readClause 0 = .ok (.aload_n 0, 1) := by decide +kernel
theorem dX12_readClause_1 : decode cX12_readClause 1 = .ok (.invokevirtual 407, 3) := by decide +kernel
theorem dX12_readClause_4 : decode cX12_readClause 4 = .ok (.istore_n 1, 1) := by decide +kernel
theorem dX12_readClause_5 : decode cX12_readClause 5 = .ok (.iload_n 1, 1) := by decide +kernel
theorem dX12_readClause_6 : decode cX12_readClause 6 = .ok (.iconst (-1), 1) := by decide +kernel
theorem dX12_readClause_7 : decode cX12_readClause 7 = .ok (.if_icmp .ne 11, 3) := by decide +kernel
theorem dX12_readClause_10 : decode cX12_readClause 10 = .ok (.aload_n 0, 1) := by decide +kernel
theorem dX12_readClause_11 : decode cX12_readClause 11 = .ok (.iconst 1, 1) := by decide +kernel
theorem dX12_readClause_12 : decode cX12_readClause 12 = .ok (.invokevirtual 325, 3) := by decide +kernel
theorem dX12_readClause_15 : decode cX12_readClause 15 = .ok (.goto 20, 3) := by decide +kernel
theorem dX12_readClause_18 : decode cX12_readClause 18 = .ok (.aload_n 0, 1) := by decide +kernel
theorem dX12_readClause_19 : decode cX12_readClause 19 = .ok (.getfield 117, 3) := by decide +kernel
theorem dX12_readClause_22 : decode cX12_readClause 22 = .ok (.bipush 10, 2) := by decide +kernel
theorem dX12_readClause_24 : decode cX12_readClause 24 = .ok (.iaload, 1) := by decide +kernel
theorem dX12_readClause_25 : decode cX12_readClause 25 = .ok (.bipush 15, 2) := by decide +kernel
theorem dX12_readClause_27 : decode cX12_readClause 27 = .ok (.if_icmp .ne 8, 3) := by decide +kernel
theorem dX12_readClause_30 : decode cX12_readClause 30 = .ok (.aload_n 0, 1) := by decide +kernel
theorem dX12_readClause_31 : decode cX12_readClause 31 = .ok (.iconst 4, 1) := by decide +kernel
theorem dX12_readClause_32 : decode cX12_readClause 32 = .ok (.invokevirtual 325, 3) := by decide +kernel
theorem dX12_readClause_35 : decode cX12_readClause 35 = .ok (.aload_n 0, 1) := by decide +kernel
theorem dX12_readClause_36 : decode cX12_readClause 36 = .ok (.invokevirtual 316, 3) := by decide +kernel
theorem dX12_readClause_39 : decode cX12_readClause 39 = .ok (.ifCond .ne 4, 3) := by decide +kernel
theorem dX12_readClause_42 : decode cX12_readClause 42 = .ok (.return_, 1) := by decide +kernel
theorem dX12_readClause_43 : decode cX12_readClause 43 = .ok (.sipush 150, 3) := by decide +kernel
theorem dX12_readClause_46 : decode cX12_readClause 46 = .ok (.aload_n 0, 1) := by decide +kernel
theorem dX12_readClause_47 : decode cX12_readClause 47 = .ok (.getfield 117, 3) := by decide +kernel
theorem dX12_readClause_50 : decode cX12_readClause 50 = .ok (.bipush 10, 2) := by decide +kernel
theorem dX12_readClause_52 : decode cX12_readClause 52 = .ok (.iaload, 1) := by decide +kernel
theorem dX12_readClause_53 : decode cX12_readClause 53 = .ok (.iadd, 1) := by decide +kernel
theorem dX12_readClause_54 : decode cX12_readClause 54 = .ok (.istore_n 2, 1) := by decide +kernel
theorem dX12_readClause_55 : decode cX12_readClause 55 = .ok (.aload_n 0, 1) := by decide +kernel
theorem dX12_readClause_56 : decode cX12_readClause 56 = .ok (.getfield 117, 3) := by decide +kernel
theorem dX12_readClause_59 : decode cX12_readClause 59 = .ok (.bipush 10, 2) := by decide +kernel
theorem dX12_readClause_61 : decode cX12_readClause 61 = .ok (.dup2, 1) := by decide +kernel
theorem dX12_readClause_62 : decode cX12_readClause 62 = .ok (.iaload, 1) := by decide +kernel
theorem dX12_readClause_63 : decode cX12_readClause 63 = .ok (.iconst 1, 1) := by decide +kernel
theorem dX12_readClause_64 : decode cX12_readClause 64 = .ok (.iadd, 1) := by decide +kernel
theorem dX12_readClause_65 : decode cX12_readClause 65 = .ok (.iastore, 1) := by decide +kernel
theorem dX12_readClause_66 : decode cX12_readClause 66 = .ok (.aload_n 0, 1) := by decide +kernel
theorem dX12_readClause_67 : decode cX12_readClause 67 = .ok (.invokevirtual 322, 3) := by decide +kernel
theorem dX12_readClause_70 : decode cX12_readClause 70 = .ok (.iload_n 1, 1) := by decide +kernel
theorem dX12_readClause_71 : decode cX12_readClause 71 = .ok (.ifCond .ne 68, 3) := by decide +kernel
theorem dX12_readClause_74 : decode cX12_readClause 74 = .ok (.aload_n 0, 1) := by decide +kernel
theorem dX12_readClause_75 : decode cX12_readClause 75 = .ok (.ldc_w 410, 3) := by decide +kernel
theorem dX12_readClause_78 : decode cX12_readClause 78 = .ok (.invokevirtual 329, 3) := by decide +kernel
theorem dX12_readClause_81 : decode cX12_readClause 81 = .ok (.ifCond .eq 7, 3) := by decide +kernel
theorem dX12_readClause_84 : decode cX12_readClause 84 = .ok (.iconst 0, 1) := by decide +kernel
theorem dX12_readClause_85 : decode cX12_readClause 85 = .ok (.goto 32, 3) := by decide +kernel
theorem dX12_readClause_88 : decode cX12_readClause 88 = .ok (.aload_n 0, 1) := by decide +kernel
theorem dX12_readClause_89 : decode cX12_readClause 89 = .ok (.ldc_w 412, 3) := by decide +kernel
theorem dX12_readClause_92 : decode cX12_readClause 92 = .ok (.invokevirtual 329, 3) := by decide +kernel
theorem dX12_readClause_95 : decode cX12_readClause 95 = .ok (.ifCond .eq 7, 3) := by decide +kernel
theorem dX12_readClause_98 : decode cX12_readClause 98 = .ok (.iconst 1, 1) := by decide +kernel
theorem dX12_readClause_99 : decode cX12_readClause 99 = .ok (.goto 18, 3) := by decide +kernel
theorem dX12_readClause_102 : decode cX12_readClause 102 = .ok (.aload_n 0, 1) := by decide +kernel
theorem dX12_readClause_103 : decode cX12_readClause 103 = .ok (.ldc_w 414, 3) := by decide +kernel
theorem dX12_readClause_106 : decode cX12_readClause 106 = .ok (.invokevirtual 329, 3) := by decide +kernel
theorem dX12_readClause_109 : decode cX12_readClause 109 = .ok (.ifCond .eq 7, 3) := by decide +kernel
theorem dX12_readClause_112 : decode cX12_readClause 112 = .ok (.iconst 2, 1) := by decide +kernel
theorem dX12_readClause_113 : decode cX12_readClause 113 = .ok (.goto 4, 3) := by decide +kernel
theorem dX12_readClause_116 : decode cX12_readClause 116 = .ok (.iconst (-1), 1) := by decide +kernel
theorem dX12_readClause_117 : decode cX12_readClause 117 = .ok (.istore_n 1, 1) := by decide +kernel
theorem dX12_readClause_118 : decode cX12_readClause 118 = .ok (.iload_n 1, 1) := by decide +kernel
theorem dX12_readClause_119 : decode cX12_readClause 119 = .ok (.iconst (-1), 1) := by decide +kernel
theorem dX12_readClause_120 : decode cX12_readClause 120 = .ok (.if_icmp .ne 8, 3) := by decide +kernel
theorem dX12_readClause_123 : decode cX12_readClause 123 = .ok (.aload_n 0, 1) := by decide +kernel
theorem dX12_readClause_124 : decode cX12_readClause 124 = .ok (.iconst 1, 1) := by decide +kernel
theorem dX12_readClause_125 : decode cX12_readClause 125 = .ok (.invokevirtual 325, 3) := by decide +kernel
theorem dX12_readClause_128 : decode cX12_readClause 128 = .ok (.aload_n 0, 1) := by decide +kernel
theorem dX12_readClause_129 : decode cX12_readClause 129 = .ok (.invokevirtual 316, 3) := by decide +kernel
theorem dX12_readClause_132 : decode cX12_readClause 132 = .ok (.ifCond .eq 7, 3) := by decide +kernel
theorem dX12_readClause_135 : decode cX12_readClause 135 = .ok (.aload_n 0, 1) := by decide +kernel
theorem dX12_readClause_136 : decode cX12_readClause 136 = .ok (.invokevirtual 322, 3) := by decide +kernel
theorem dX12_readClause_139 : decode cX12_readClause 139 = .ok (.aload_n 0, 1) := by decide +kernel
theorem dX12_readClause_140 : decode cX12_readClause 140 = .ok (.getfield 120, 3) := by decide +kernel
theorem dX12_readClause_143 : decode cX12_readClause 143 = .ok (.iload_n 2, 1) := by decide +kernel
theorem dX12_readClause_144 : decode cX12_readClause 144 = .ok (.iload_n 1, 1) := by decide +kernel
theorem dX12_readClause_145 : decode cX12_readClause 145 = .ok (.iastore, 1) := by decide +kernel
theorem dX12_readClause_146 : decode cX12_readClause 146 = .ok (.aload_n 0, 1) := by decide +kernel
theorem dX12_readClause_147 : decode cX12_readClause 147 = .ok (.iload_n 1, 1) := by decide +kernel
theorem dX12_readClause_148 : decode cX12_readClause 148 = .ok (.putfield 333, 3) := by decide +kernel
theorem dX12_readClause_151 : decode cX12_readClause 151 = .ok (.aload_n 0, 1) := by decide +kernel
theorem dX12_readClause_152 : decode cX12_readClause 152 = .ok (.getfield 126, 3) := by decide +kernel
theorem dX12_readClause_155 : decode cX12_readClause 155 = .ok (.iload_n 2, 1) := by decide +kernel
theorem dX12_readClause_156 : decode cX12_readClause 156 = .ok (.aload_n 0, 1) := by decide +kernel
theorem dX12_readClause_157 : decode cX12_readClause 157 = .ok (.getfield 114, 3) := by decide +kernel
theorem dX12_readClause_160 : decode cX12_readClause 160 = .ok (.bipush 10, 2) := by decide +kernel
theorem dX12_readClause_162 : decode cX12_readClause 162 = .ok (.iaload, 1) := by decide +kernel
theorem dX12_readClause_163 : decode cX12_readClause 163 = .ok (.iastore, 1) := by decide +kernel
theorem dX12_readClause_164 : decode cX12_readClause 164 = .ok (.aload_n 0, 1) := by decide +kernel
theorem dX12_readClause_165 : decode cX12_readClause 165 = .ok (.getfield 123, 3) := by decide +kernel
theorem dX12_readClause_168 : decode cX12_readClause 168 = .ok (.iload_n 2, 1) := by decide +kernel
theorem dX12_readClause_169 : decode cX12_readClause 169 = .ok (.iload_n 1, 1) := by decide +kernel
theorem dX12_readClause_170 : decode cX12_readClause 170 = .ok (.iconst 4, 1) := by decide +kernel
theorem dX12_readClause_171 : decode cX12_readClause 171 = .ok (.if_icmp .ne 13, 3) := by decide +kernel
theorem dX12_readClause_174 : decode cX12_readClause 174 = .ok (.aload_n 0, 1) := by decide +kernel
theorem dX12_readClause_175 : decode cX12_readClause 175 = .ok (.sipush 999, 3) := by decide +kernel
theorem dX12_readClause_178 : decode cX12_readClause 178 = .ok (.invokevirtual 415, 3) := by decide +kernel
theorem dX12_readClause_181 : decode cX12_readClause 181 = .ok (.goto 18, 3) := by decide +kernel
theorem dX12_readClause_184 : decode cX12_readClause 184 = .ok (.iload_n 1, 1) := by decide +kernel
theorem dX12_readClause_185 : decode cX12_readClause 185 = .ok (.iconst 5, 1) := by decide +kernel
theorem dX12_readClause_186 : decode cX12_readClause 186 = .ok (.if_icmp .ne 12, 3) := by decide +kernel
theorem dX12_readClause_189 : decode cX12_readClause 189 = .ok (.aload_n 0, 1) := by decide +kernel
theorem dX12_readClause_190 : decode cX12_readClause 190 = .ok (.bipush 12, 2) := by decide +kernel
theorem dX12_readClause_192 : decode cX12_readClause 192 = .ok (.invokevirtual 415, 3) := by decide +kernel
theorem dX12_readClause_195 : decode cX12_readClause 195 = .ok (.goto 4, 3) := by decide +kernel
theorem dX12_readClause_198 : decode cX12_readClause 198 = .ok (.iconst 0, 1) := by decide +kernel
theorem dX12_readClause_199 : decode cX12_readClause 199 = .ok (.iastore, 1) := by decide +kernel
theorem dX12_readClause_200 : decode cX12_readClause 200 = .ok (.iload_n 1, 1) := by decide +kernel
theorem dX12_readClause_201 : decode cX12_readClause 201 = .ok (.iconst 3, 1) := by decide +kernel
theorem dX12_readClause_202 : decode cX12_readClause 202 = .ok (.if_icmp .ne 7, 3) := by decide +kernel
theorem dX12_readClause_205 : decode cX12_readClause 205 = .ok (.aload_n 0, 1) := by decide +kernel
theorem dX12_readClause_206 : decode cX12_readClause 206 = .ok (.invokevirtual 366, 3) := by decide +kernel
theorem dX12_readClause_209 : decode cX12_readClause 209 = .ok (.iload_n 1, 1) := by decide +kernel
theorem dX12_readClause_210 : decode cX12_readClause 210 = .ok (.iconst 2, 1) := by decide +kernel
theorem dX12_readClause_211 : decode cX12_readClause 211 = .ok (.if_icmp .le 9, 3) := by decide +kernel
theorem dX12_readClause_214 : decode cX12_readClause 214 = .ok (.iload_n 1, 1) := by decide +kernel
theorem dX12_readClause_215 : decode cX12_readClause 215 = .ok (.bipush 7, 2) := by decide +kernel
theorem dX12_readClause_217 : decode cX12_readClause 217 = .ok (.if_icmp .ne 14, 3) := by decide +kernel
theorem dX12_readClause_220 : decode cX12_readClause 220 = .ok (.aload_n 0, 1) := by decide +kernel
theorem dX12_readClause_221 : decode cX12_readClause 221 = .ok (.ldc_w 418, 3) := by decide +kernel
theorem dX12_readClause_224 : decode cX12_readClause 224 = .ok (.invokevirtual 420, 3) := by decide +kernel
theorem dX12_readClause_227 : decode cX12_readClause 227 = .ok (.aload_n 0, 1) := by decide +kernel
theorem dX12_readClause_228 : decode cX12_readClause 228 = .ok (.invokevirtual 380, 3) := by decide +kernel
theorem dX12_readClause_231 : decode cX12_readClause 231 = .ok (.aload_n 0, 1) := by decide +kernel
theorem dX12_readClause_232 : decode cX12_readClause 232 = .ok (.bipush 59, 2) := by decide +kernel
theorem dX12_readClause_234 : decode cX12_readClause 234 = .ok (.invokevirtual 369, 3) := by decide +kernel
theorem dX12_readClause_237 : decode cX12_readClause 237 = .ok (.aload_n 0, 1) := by decide +kernel
theorem dX12_readClause_238 : decode cX12_readClause 238 = .ok (.getfield 129, 3) := by decide +kernel
theorem dX12_readClause_241 : decode cX12_readClause 241 = .ok (.iload_n 2, 1) := by decide +kernel
theorem dX12_readClause_242 : decode cX12_readClause 242 = .ok (.aload_n 0, 1) := by decide +kernel
theorem dX12_readClause_243 : decode cX12_readClause 243 = .ok (.getfield 114, 3) := by decide +kernel
theorem dX12_readClause_246 : decode cX12_readClause 246 = .ok (.bipush 10, 2) := by decide +kernel
theorem dX12_readClause_248 : decode cX12_readClause 248 = .ok (.iaload, 1) := by decide +kernel
theorem dX12_readClause_249 : decode cX12_readClause 249 = .ok (.iastore, 1) := by decide +kernel
theorem dX12_readClause_250 : decode cX12_readClause 250 = .ok (.return_, 1) := by decide +kernel
theorem dX12_starts_0 : decode cX12_starts 0 = .ok (.aload_n 0, 1) := by decide +kernel
theorem dX12_starts_1 : decode cX12_starts 1 = .ok (.iconst 0, 1) := by decide +kernel
theorem dX12_starts_2 : decode cX12_starts 2 = .ok (.putfield 310, 3) := by decide +kernel
theorem dX12_starts_5 : decode cX12_starts 5 = .ok (.aload_n 0, 1) := by decide +kernel
theorem dX12_starts_6 : decode cX12_starts 6 = .ok (.iconst 0, 1) := by decide +kernel
theorem dX12_starts_7 : decode cX12_starts 7 = .ok (.putfield 279, 3) := by decide +kernel
theorem dX12_starts_10 : decode cX12_starts 10 = .ok (.aload_n 0, 1) := by decide +kernel
theorem dX12_starts_11 : decode cX12_starts 11 = .ok (.iconst 0, 1) := by decide +kernel
theorem dX12_starts_12 : decode cX12_starts 12 = .ok (.putfield 354, 3) := by decide +kernel
theorem dX12_starts_15 : decode cX12_starts 15 = .ok (.aload_n 0, 1) := by decide +kernel
theorem dX12_starts_16 : decode cX12_starts 16 = .ok (.getfield 114, 3) := by decide +kernel
theorem dX12_starts_19 : decode cX12_starts 19 = .ok (.bipush 10, 2) := by decide +kernel
theorem dX12_starts_21 : decode cX12_starts 21 = .ok (.iconst 0, 1) := by decide +kernel
theorem dX12_starts_22 : decode cX12_starts 22 = .ok (.iastore, 1) := by decide +kernel
theorem dX12_starts_23 : decode cX12_starts 23 = .ok (.aload_n 0, 1) := by decide +kernel
theorem dX12_starts_24 : decode cX12_starts 24 = .ok (.getfield 117, 3) := by decide +kernel
theorem dX12_starts_27 : decode cX12_starts 27 = .ok (.bipush 10, 2) := by decide +kernel
theorem dX12_starts_29 : decode cX12_starts 29 = .ok (.iconst 0, 1) := by decide +kernel
theorem dX12_starts_30 : decode cX12_starts 30 = .ok (.iastore, 1) := by decide +kernel
theorem dX12_starts_31 : decode cX12_starts 31 = .ok (.aload_n 0, 1) := by decide +kernel
theorem dX12_starts_32 : decode cX12_starts 32 = .ok (.invokevirtual 322, 3) := by decide +kernel
theorem dX12_starts_35 : decode cX12_starts 35 = .ok (.return_, 1) := by decide +kernel
theorem dX12_stops_0 : decode cX12_stops 0 = .ok (.aload_n 0, 1) := by decide +kernel
theorem dX12_stops_1 : decode cX12_stops 1 = .ok (.iconst 0, 1) := by decide +kernel
theorem dX12_stops_2 : decode cX12_stops 2 = .ok (.putfield 276, 3) := by decide +kernel
theorem dX12_stops_5 : decode cX12_stops 5 = .ok (.aload_n 0, 1) := by decide +kernel
theorem dX12_stops_6 : decode cX12_stops 6 = .ok (.aload_n 0, 1) := by decide +kernel
theorem dX12_stops_7 : decode cX12_stops 7 = .ok (.invokevirtual 316, 3) := by decide +kernel
theorem dX12_stops_10 : decode cX12_stops 10 = .ok (.ifCond .eq 7, 3) := by decide +kernel
theorem dX12_stops_13 : decode cX12_stops 13 = .ok (.iconst (-1), 1) := by decide +kernel
theorem dX12_stops_14 : decode cX12_stops 14 = .ok (.goto 7, 3) := by decide +kernel
theorem dX12_stops_17 : decode cX12_stops 17 = .ok (.aload_n 0, 1) := by decide +kernel
theorem dX12_stops_18 : decode cX12_stops 18 = .ok (.getfield 313, 3) := by decide +kernel
theorem dX12_stops_21 : decode cX12_stops 21 = .ok (.putfield 136, 3) := by decide +kernel
theorem dX12_stops_24 : decode cX12_stops 24 = .ok (.aload_n 0, 1) := by decide +kernel
theorem dX12_stops_25 : decode cX12_stops 25 = .ok (.invokevirtual 316, 3) := by decide +kernel
theorem dX12_stops_28 : decode cX12_stops 28 = .ok (.ifCond .eq 7, 3) := by decide +kernel
theorem dX12_stops_31 : decode cX12_stops 31 = .ok (.iconst 0, 1) := by decide +kernel
theorem dX12_stops_32 : decode cX12_stops 32 = .ok (.goto 9, 3) := by decide +kernel
theorem dX12_stops_35 : decode cX12_stops 35 = .ok (.iconst (-1), 1) := by decide +kernel
theorem dX12_stops_36 : decode cX12_stops 36 = .ok (.aload_n 0, 1) := by decide +kernel
theorem dX12_stops_37 : decode cX12_stops 37 = .ok (.getfield 310, 3) := by decide +kernel
theorem dX12_stops_40 : decode cX12_stops 40 = .ok (.isub, 1) := by decide +kernel
theorem dX12_stops_41 : decode cX12_stops 41 = .ok (.ireturn, 1) := by decide +kernel
theorem dX12_place_0 : decode cX12_place 0 = .ok (.aload_n 0, 1) := by decide +kernel
theorem dX12_place_1 : decode cX12_place 1 = .ok (.iconst 0, 1) := by decide +kernel
theorem dX12_place_2 : decode cX12_place 2 = .ok (.putfield 1, 3) := by decide +kernel
theorem dX12_place_5 : decode cX12_place 5 = .ok (.aload_n 0, 1) := by decide +kernel
theorem dX12_place_6 : decode cX12_place 6 = .ok (.getfield 136, 3) := by decide +kernel
theorem dX12_place_9 : decode cX12_place 9 = .ok (.ireturn, 1) := by decide +kernel
theorem dX12_orders_0 : decode cX12_orders 0 = .ok (.aload_n 0, 1) := by decide +kernel
theorem dX12_orders_1 : decode cX12_orders 1 = .ok (.iconst 0, 1) := by decide +kernel
theorem dX12_orders_2 : decode cX12_orders 2 = .ok (.putfield 1, 3) := by decide +kernel
theorem dX12_orders_5 : decode cX12_orders 5 = .ok (.aload_n 0, 1) := by decide +kernel
theorem dX12_orders_6 : decode cX12_orders 6 = .ok (.getfield 240, 3) := by decide +kernel
theorem dX12_orders_9 : decode cX12_orders 9 = .ok (.bipush 10, 2) := by decide +kernel
theorem dX12_orders_11 : decode cX12_orders 11 = .ok (.if_icmp .ne 5, 3) := by decide +kernel
theorem dX12_orders_14 : decode cX12_orders 14 = .ok (.iconst (-1), 1) := by decide +kernel
theorem dX12_orders_15 : decode cX12_orders 15 = .ok (.ireturn, 1) := by decide +kernel
theorem dX12_orders_16 : decode cX12_orders 16 = .ok (.aload_n 0, 1) := by decide +kernel
theorem dX12_orders_17 : decode cX12_orders 17 = .ok (.invokevirtual 424, 3) := by decide +kernel
theorem dX12_orders_20 : decode cX12_orders 20 = .ok (.aload_n 0, 1) := by decide +kernel
theorem dX12_orders_21 : decode cX12_orders 21 = .ok (.invokevirtual 316, 3) := by decide +kernel
theorem dX12_orders_24 : decode cX12_orders 24 = .ok (.ifCond .eq 17, 3) := by decide +kernel
theorem dX12_orders_27 : decode cX12_orders 27 = .ok (.aload_n 0, 1) := by decide +kernel
theorem dX12_orders_28 : decode cX12_orders 28 = .ok (.getfield 285, 3) := by decide +kernel
theorem dX12_orders_31 : decode cX12_orders 31 = .ok (.ifCond .eq 10, 3) := by decide +kernel
theorem dX12_orders_34 : decode cX12_orders 34 = .ok (.aload_n 0, 1) := by decide +kernel
theorem dX12_orders_35 : decode cX12_orders 35 = .ok (.invokevirtual 427, 3) := by decide +kernel
theorem dX12_orders_38 : decode cX12_orders 38 = .ok (.goto (-18), 3) := by decide +kernel
theorem dX12_orders_41 : decode cX12_orders 41 = .ok (.aload_n 0, 1) := by decide +kernel
theorem dX12_orders_42 : decode cX12_orders 42 = .ok (.invokevirtual 430, 3) := by decide +kernel
theorem dX12_orders_45 : decode cX12_orders 45 = .ok (.istore_n 1, 1) := by decide +kernel
theorem dX12_orders_46 : decode cX12_orders 46 = .ok (.iload_n 1, 1) := by decide +kernel
theorem dX12_orders_47 : decode cX12_orders 47 = .ok (.ifCond .ge 5, 3) := by decide +kernel
theorem dX12_orders_50 : decode cX12_orders 50 = .ok (.iload_n 1, 1) := by decide +kernel
theorem dX12_orders_51 : decode cX12_orders 51 = .ok (.ireturn, 1) := by decide +kernel
theorem dX12_orders_52 : decode cX12_orders 52 = .ok (.aload_n 0, 1) := by decide +kernel
theorem dX12_orders_53 : decode cX12_orders 53 = .ok (.getfield 114, 3) := by decide +kernel
theorem dX12_orders_56 : decode cX12_orders 56 = .ok (.aload_n 0, 1) := by decide +kernel
theorem dX12_orders_57 : decode cX12_orders 57 = .ok (.getfield 240, 3) := by decide +kernel
theorem dX12_orders_60 : decode cX12_orders 60 = .ok (.aload_n 0, 1) := by decide +kernel
theorem dX12_orders_61 : decode cX12_orders 61 = .ok (.getfield 114, 3) := by decide +kernel
theorem dX12_orders_64 : decode cX12_orders 64 = .ok (.bipush 10, 2) := by decide +kernel
theorem dX12_orders_66 : decode cX12_orders 66 = .ok (.iaload, 1) := by decide +kernel
theorem dX12_orders_67 : decode cX12_orders 67 = .ok (.iastore, 1) := by decide +kernel
theorem dX12_orders_68 : decode cX12_orders 68 = .ok (.aload_n 0, 1) := by decide +kernel
theorem dX12_orders_69 : decode cX12_orders 69 = .ok (.getfield 117, 3) := by decide +kernel
theorem dX12_orders_72 : decode cX12_orders 72 = .ok (.aload_n 0, 1) := by decide +kernel
theorem dX12_orders_73 : decode cX12_orders 73 = .ok (.getfield 240, 3) := by decide +kernel
theorem dX12_orders_76 : decode cX12_orders 76 = .ok (.aload_n 0, 1) := by decide +kernel
theorem dX12_orders_77 : decode cX12_orders 77 = .ok (.getfield 117, 3) := by decide +kernel
theorem dX12_orders_80 : decode cX12_orders 80 = .ok (.bipush 10, 2) := by decide +kernel
theorem dX12_orders_82 : decode cX12_orders 82 = .ok (.iaload, 1) := by decide +kernel
theorem dX12_orders_83 : decode cX12_orders 83 = .ok (.iastore, 1) := by decide +kernel
theorem dX12_orders_84 : decode cX12_orders 84 = .ok (.iconst 0, 1) := by decide +kernel
theorem dX12_orders_85 : decode cX12_orders 85 = .ok (.istore_n 2, 1) := by decide +kernel
theorem dX12_orders_86 : decode cX12_orders 86 = .ok (.iload_n 2, 1) := by decide +kernel
theorem dX12_orders_87 : decode cX12_orders 87 = .ok (.aload_n 0, 1) := by decide +kernel
theorem dX12_orders_88 : decode cX12_orders 88 = .ok (.getfield 114, 3) := by decide +kernel
theorem dX12_orders_91 : decode cX12_orders 91 = .ok (.bipush 10, 2) := by decide +kernel
theorem dX12_orders_93 : decode cX12_orders 93 = .ok (.iaload, 1) := by decide +kernel
theorem dX12_orders_94 : decode cX12_orders 94 = .ok (.if_icmp .ge 34, 3) := by decide +kernel
theorem dX12_orders_97 : decode cX12_orders 97 = .ok (.aload_n 0, 1) := by decide +kernel
theorem dX12_orders_98 : decode cX12_orders 98 = .ok (.getfield 111, 3) := by decide +kernel
theorem dX12_orders_101 : decode cX12_orders 101 = .ok (.sipush 320, 3) := by decide +kernel
theorem dX12_orders_104 : decode cX12_orders 104 = .ok (.aload_n 0, 1) := by decide +kernel
theorem dX12_orders_105 : decode cX12_orders 105 = .ok (.getfield 240, 3) := by decide +kernel
theorem dX12_orders_108 : decode cX12_orders 108 = .ok (.imul, 1) := by decide +kernel
theorem dX12_orders_109 : decode cX12_orders 109 = .ok (.iload_n 2, 1) := by decide +kernel
theorem dX12_orders_110 : decode cX12_orders 110 = .ok (.iadd, 1) := by decide +kernel
theorem dX12_orders_111 : decode cX12_orders 111 = .ok (.aload_n 0, 1) := by decide +kernel
theorem dX12_orders_112 : decode cX12_orders 112 = .ok (.getfield 111, 3) := by decide +kernel
theorem dX12_orders_115 : decode cX12_orders 115 = .ok (.sipush 3200, 3) := by decide +kernel
theorem dX12_orders_118 : decode cX12_orders 118 = .ok (.iload_n 2, 1) := by decide +kernel
theorem dX12_orders_119 : decode cX12_orders 119 = .ok (.iadd, 1) := by decide +kernel
theorem dX12_orders_120 : decode cX12_orders 120 = .ok (.iaload, 1) := by decide +kernel
theorem dX12_orders_121 : decode cX12_orders 121 = .ok (.iastore, 1) := by decide +kernel
theorem dX12_orders_122 : decode cX12_orders 122 = .ok (.iinc 2 1, 3) := by decide +kernel
theorem dX12_orders_125 : decode cX12_orders 125 = .ok (.goto (-39), 3) := by decide +kernel
theorem dX12_orders_128 : decode cX12_orders 128 = .ok (.iconst 0, 1) := by decide +kernel
theorem dX12_orders_129 : decode cX12_orders 129 = .ok (.istore_n 2, 1) := by decide +kernel
theorem dX12_orders_130 : decode cX12_orders 130 = .ok (.iload_n 2, 1) := by decide +kernel
theorem dX12_orders_131 : decode cX12_orders 131 = .ok (.aload_n 0, 1) := by decide +kernel
theorem dX12_orders_132 : decode cX12_orders 132 = .ok (.getfield 117, 3) := by decide +kernel
theorem dX12_orders_135 : decode cX12_orders 135 = .ok (.bipush 10, 2) := by decide +kernel
theorem dX12_orders_137 : decode cX12_orders 137 = .ok (.iaload, 1) := by decide +kernel
theorem dX12_orders_138 : decode cX12_orders 138 = .ok (.if_icmp .ge 78, 3) := by decide +kernel
theorem dX12_orders_141 : decode cX12_orders 141 = .ok (.sipush 150, 3) := by decide +kernel
theorem dX12_orders_144 : decode cX12_orders 144 = .ok (.iload_n 2, 1) := by decide +kernel
theorem dX12_orders_145 : decode cX12_orders 145 = .ok (.iadd, 1) := by decide +kernel
theorem dX12_orders_146 : decode cX12_orders 146 = .ok (.istore_n 3, 1) := by decide +kernel
theorem dX12_orders_147 : decode cX12_orders 147 = .ok (.bipush 15, 2) := by decide +kernel
theorem dX12_orders_149 : decode cX12_orders 149 = .ok (.aload_n 0, 1) := by decide +kernel
theorem dX12_orders_150 : decode cX12_orders 150 = .ok (.getfield 240, 3) := by decide +kernel
theorem dX12_orders_153 : decode cX12_orders 153 = .ok (.imul, 1) := by decide +kernel
theorem dX12_orders_154 : decode cX12_orders 154 = .ok (.iload_n 2, 1) := by decide +kernel
theorem dX12_orders_155 : decode cX12_orders 155 = .ok (.iadd, 1) := by decide +kernel
theorem dX12_orders_156 : decode cX12_orders 156 = .ok (.istore 4, 2) := by decide +kernel
theorem dX12_orders_158 : decode cX12_orders 158 = .ok (.aload_n 0, 1) := by decide +kernel
theorem dX12_orders_159 : decode cX12_orders 159 = .ok (.getfield 120, 3) := by decide +kernel
theorem dX12_orders_162 : decode cX12_orders 162 = .ok (.iload 4, 2) := by decide +kernel
theorem dX12_orders_164 : decode cX12_orders 164 = .ok (.aload_n 0, 1) := by decide +kernel
theorem dX12_orders_165 : decode cX12_orders 165 = .ok (.getfield 120, 3) := by decide +kernel
theorem dX12_orders_168 : decode cX12_orders 168 = .ok (.iload_n 3, 1) := by decide +kernel
theorem dX12_orders_169 : decode cX12_orders 169 = .ok (.iaload, 1) := by decide +kernel
theorem dX12_orders_170 : decode cX12_orders 170 = .ok (.iastore, 1) := by decide +kernel
theorem dX12_orders_171 : decode cX12_orders 171 = .ok (.aload_n 0, 1) := by decide +kernel
theorem dX12_orders_172 : decode cX12_orders 172 = .ok (.getfield 123, 3) := by decide +kernel
theorem dX12_orders_175 : decode cX12_orders 175 = .ok (.iload 4, 2) := by decide +kernel
theorem dX12_orders_177 : decode cX12_orders 177 = .ok (.aload_n 0, 1) := by decide +kernel
theorem dX12_orders_178 : decode cX12_orders 178 = .ok (.getfield 123, 3) := by decide +kernel
theorem dX12_orders_181 : decode cX12_orders 181 = .ok (.iload_n 3, 1) := by decide +kernel
theorem dX12_orders_182 : decode cX12_orders 182 = .ok (.iaload, 1) := by decide +kernel
theorem dX12_orders_183 : decode cX12_orders 183 = .ok (.iastore, 1) := by decide +kernel
theorem dX12_orders_184 : decode cX12_orders 184 = .ok (.aload_n 0, 1) := by decide +kernel
theorem dX12_orders_185 : decode cX12_orders 185 = .ok (.getfield 126, 3) := by decide +kernel
theorem dX12_orders_188 : decode cX12_orders 188 = .ok (.iload 4, 2) := by decide +kernel
theorem dX12_orders_190 : decode cX12_orders 190 = .ok (.aload_n 0, 1) := by decide +kernel
theorem dX12_orders_191 : decode cX12_orders 191 = .ok (.getfield 126, 3) := by decide +kernel
theorem dX12_orders_194 : decode cX12_orders 194 = .ok (.iload_n 3, 1) := by decide +kernel
theorem dX12_orders_195 : decode cX12_orders 195 = .ok (.iaload, 1) := by decide +kernel
theorem dX12_orders_196 : decode cX12_orders 196 = .ok (.iastore, 1) := by decide +kernel
theorem dX12_orders_197 : decode cX12_orders 197 = .ok (.aload_n 0, 1) := by decide +kernel
theorem dX12_orders_198 : decode cX12_orders 198 = .ok (.getfield 129, 3) := by decide +kernel
theorem dX12_orders_201 : decode cX12_orders 201 = .ok (.iload 4, 2) := by decide +kernel
theorem dX12_orders_203 : decode cX12_orders 203 = .ok (.aload_n 0, 1) := by decide +kernel
theorem dX12_orders_204 : decode cX12_orders 204 = .ok (.getfield 129, 3) := by decide +kernel
theorem dX12_orders_207 : decode cX12_orders 207 = .ok (.iload_n 3, 1) := by decide +kernel
theorem dX12_orders_208 : decode cX12_orders 208 = .ok (.iaload, 1) := by decide +kernel
theorem dX12_orders_209 : decode cX12_orders 209 = .ok (.iastore, 1) := by decide +kernel
theorem dX12_orders_210 : decode cX12_orders 210 = .ok (.iinc 2 1, 3) := by decide +kernel
theorem dX12_orders_213 : decode cX12_orders 213 = .ok (.goto (-83), 3) := by decide +kernel
theorem dX12_orders_216 : decode cX12_orders 216 = .ok (.aload_n 0, 1) := by decide +kernel
theorem dX12_orders_217 : decode cX12_orders 217 = .ok (.getfield 50, 3) := by decide +kernel
theorem dX12_orders_220 : decode cX12_orders 220 = .ok (.aload_n 0, 1) := by decide +kernel
theorem dX12_orders_221 : decode cX12_orders 221 = .ok (.getfield 240, 3) := by decide +kernel
theorem dX12_orders_224 : decode cX12_orders 224 = .ok (.aload_n 0, 1) := by decide +kernel
theorem dX12_orders_225 : decode cX12_orders 225 = .ok (.getfield 240, 3) := by decide +kernel
theorem dX12_orders_228 : decode cX12_orders 228 = .ok (.ifCond .ne 7, 3) := by decide +kernel
theorem dX12_orders_231 : decode cX12_orders 231 = .ok (.iconst 1, 1) := by decide +kernel
theorem dX12_orders_232 : decode cX12_orders 232 = .ok (.goto 4, 3) := by decide +kernel
theorem dX12_orders_235 : decode cX12_orders 235 = .ok (.iconst 0, 1) := by decide +kernel
theorem dX12_orders_236 : decode cX12_orders 236 = .ok (.iastore, 1) := by decide +kernel
theorem dX12_orders_237 : decode cX12_orders 237 = .ok (.aload_n 0, 1) := by decide +kernel
theorem dX12_orders_238 : decode cX12_orders 238 = .ok (.getfield 240, 3) := by decide +kernel
theorem dX12_orders_241 : decode cX12_orders 241 = .ok (.ifCond .ne 8, 3) := by decide +kernel
theorem dX12_orders_244 : decode cX12_orders 244 = .ok (.aload_n 0, 1) := by decide +kernel
theorem dX12_orders_245 : decode cX12_orders 245 = .ok (.iconst 0, 1) := by decide +kernel
theorem dX12_orders_246 : decode cX12_orders 246 = .ok (.putfield 41, 3) := by decide +kernel
theorem dX12_orders_249 : decode cX12_orders 249 = .ok (.aload_n 0, 1) := by decide +kernel
theorem dX12_orders_250 : decode cX12_orders 250 = .ok (.dup, 1) := by decide +kernel
theorem dX12_orders_251 : decode cX12_orders 251 = .ok (.getfield 240, 3) := by decide +kernel
theorem dX12_orders_254 : decode cX12_orders 254 = .ok (.iconst 1, 1) := by decide +kernel
theorem dX12_orders_255 : decode cX12_orders 255 = .ok (.iadd, 1) := by decide +kernel
theorem dX12_orders_256 : decode cX12_orders 256 = .ok (.putfield 240, 3) := by decide +kernel
theorem dX12_orders_259 : decode cX12_orders 259 = .ok (.aload_n 0, 1) := by decide +kernel
theorem dX12_orders_260 : decode cX12_orders 260 = .ok (.iconst 0, 1) := by decide +kernel
theorem dX12_orders_261 : decode cX12_orders 261 = .ok (.putfield 433, 3) := by decide +kernel
theorem dX12_orders_264 : decode cX12_orders 264 = .ok (.aload_n 0, 1) := by decide +kernel
theorem dX12_orders_265 : decode cX12_orders 265 = .ok (.getfield 240, 3) := by decide +kernel
theorem dX12_orders_268 : decode cX12_orders 268 = .ok (.iconst 1, 1) := by decide +kernel
theorem dX12_orders_269 : decode cX12_orders 269 = .ok (.isub, 1) := by decide +kernel
theorem dX12_orders_270 : decode cX12_orders 270 = .ok (.ireturn, 1) := by decide +kernel
theorem dX12_clause_0 : decode cX12_clause 0 = .ok (.iconst (-1), 1) := by decide +kernel
theorem dX12_clause_1 : decode cX12_clause 1 = .ok (.istore_n 2, 1) := by decide +kernel
theorem dX12_clause_2 : decode cX12_clause 2 = .ok (.iconst 0, 1) := by decide +kernel
theorem dX12_clause_3 : decode cX12_clause 3 = .ok (.istore_n 3, 1) := by decide +kernel
theorem dX12_clause_4 : decode cX12_clause 4 = .ok (.aload_n 0, 1) := by decide +kernel
theorem dX12_clause_5 : decode cX12_clause 5 = .ok (.getfield 41, 3) := by decide +kernel
theorem dX12_clause_8 : decode cX12_clause 8 = .ok (.iconst (-1), 1) := by decide +kernel
theorem dX12_clause_9 : decode cX12_clause 9 = .ok (.if_icmp .eq 50, 3) := by decide +kernel
theorem dX12_clause_12 : decode cX12_clause 12 = .ok (.iload_n 3, 1) := by decide +kernel
theorem dX12_clause_13 : decode cX12_clause 13 = .ok (.aload_n 0, 1) := by decide +kernel
theorem dX12_clause_14 : decode cX12_clause 14 = .ok (.getfield 117, 3) := by decide +kernel
theorem dX12_clause_17 : decode cX12_clause 17 = .ok (.aload_n 0, 1) := by decide +kernel
theorem dX12_clause_18 : decode cX12_clause 18 = .ok (.getfield 41, 3) := by decide +kernel
theorem dX12_clause_21 : decode cX12_clause 21 = .ok (.iaload, 1) := by decide +kernel
theorem dX12_clause_22 : decode cX12_clause 22 = .ok (.if_icmp .ge 37, 3) := by decide +kernel
theorem dX12_clause_25 : decode cX12_clause 25 = .ok (.aload_n 0, 1) := by decide +kernel
theorem dX12_clause_26 : decode cX12_clause 26 = .ok (.getfield 120, 3) := by decide +kernel
theorem dX12_clause_29 : decode cX12_clause 29 = .ok (.bipush 15, 2) := by decide +kernel
theorem dX12_clause_31 : decode cX12_clause 31 = .ok (.aload_n 0, 1) := by decide +kernel
theorem dX12_clause_32 : decode cX12_clause 32 = .ok (.getfield 41, 3) := by decide +kernel
theorem dX12_clause_35 : decode cX12_clause 35 = .ok (.imul, 1) := by decide +kernel
theorem dX12_clause_36 : decode cX12_clause 36 = .ok (.iload_n 3, 1) := by decide +kernel
theorem dX12_clause_37 : decode cX12_clause 37 = .ok (.iadd, 1) := by decide +kernel
theorem dX12_clause_38 : decode cX12_clause 38 = .ok (.iaload, 1) := by decide +kernel
theorem dX12_clause_39 : decode cX12_clause 39 = .ok (.iload_n 1, 1) := by decide +kernel
theorem dX12_clause_40 : decode cX12_clause 40 = .ok (.if_icmp .ne 13, 3) := by decide +kernel
theorem dX12_clause_43 : decode cX12_clause 43 = .ok (.bipush 15, 2) := by decide +kernel
theorem dX12_clause_45 : decode cX12_clause 45 = .ok (.aload_n 0, 1) := by decide +kernel
theorem dX12_clause_46 : decode cX12_clause 46 = .ok (.getfield 41, 3) := by decide +kernel
theorem dX12_clause_49 : decode cX12_clause 49 = .ok (.imul, 1) := by decide +kernel
theorem dX12_clause_50 : decode cX12_clause 50 = .ok (.iload_n 3, 1) := by decide +kernel
theorem dX12_clause_51 : decode cX12_clause 51 = .ok (.iadd, 1) := by decide +kernel
theorem dX12_clause_52 : decode cX12_clause 52 = .ok (.istore_n 2, 1) := by decide +kernel
theorem dX12_clause_53 : decode cX12_clause 53 = .ok (.iinc 3 1, 3) := by decide +kernel
theorem dX12_clause_56 : decode cX12_clause 56 = .ok (.goto (-52), 3) := by decide +kernel
theorem dX12_clause_59 : decode cX12_clause 59 = .ok (.iload_n 2, 1) := by decide +kernel
theorem dX12_clause_60 : decode cX12_clause 60 = .ok (.ireturn, 1) := by decide +kernel
theorem dX12_hasBind_0 : decode cX12_hasBind 0 = .ok (.aload_n 0, 1) := by decide +kernel
theorem dX12_hasBind_1 : decode cX12_hasBind 1 = .ok (.bipush 6, 2) := by decide +kernel
theorem dX12_hasBind_3 : decode cX12_hasBind 3 = .ok (.invokevirtual 437, 3) := by decide +kernel
theorem dX12_hasBind_6 : decode cX12_hasBind 6 = .ok (.iconst (-1), 1) := by decide +kernel
theorem dX12_hasBind_7 : decode cX12_hasBind 7 = .ok (.if_icmp .eq 7, 3) := by decide +kernel
theorem dX12_hasBind_10 : decode cX12_hasBind 10 = .ok (.iconst 1, 1) := by decide +kernel
theorem dX12_hasBind_11 : decode cX12_hasBind 11 = .ok (.goto 4, 3) := by decide +kernel
theorem dX12_hasBind_14 : decode cX12_hasBind 14 = .ok (.iconst 0, 1) := by decide +kernel
theorem dX12_hasBind_15 : decode cX12_hasBind 15 = .ok (.ireturn, 1) := by decide +kernel
theorem dX12_length_0 : decode cX12_length 0 = .ok (.aload_n 0, 1) := by decide +kernel
theorem dX12_length_1 : decode cX12_length 1 = .ok (.iconst 5, 1) := by decide +kernel
theorem dX12_length_2 : decode cX12_length 2 = .ok (.invokevirtual 437, 3) := by decide +kernel
theorem dX12_length_5 : decode cX12_length 5 = .ok (.istore_n 1, 1) := by decide +kernel
theorem dX12_length_6 : decode cX12_length 6 = .ok (.iload_n 1, 1) := by decide +kernel
theorem dX12_length_7 : decode cX12_length 7 = .ok (.iconst (-1), 1) := by decide +kernel
theorem dX12_length_8 : decode cX12_length 8 = .ok (.if_icmp .ne 8, 3) := by decide +kernel
theorem dX12_length_11 : decode cX12_length 11 = .ok (.bipush 12, 2) := by decide +kernel
theorem dX12_length_13 : decode cX12_length 13 = .ok (.goto 9, 3) := by decide +kernel
theorem dX12_length_16 : decode cX12_length 16 = .ok (.aload_n 0, 1) := by decide +kernel
theorem dX12_length_17 : decode cX12_length 17 = .ok (.getfield 123, 3) := by decide +kernel
theorem dX12_length_20 : decode cX12_length 20 = .ok (.iload_n 1, 1) := by decide +kernel
theorem dX12_length_21 : decode cX12_length 21 = .ok (.iaload, 1) := by decide +kernel
theorem dX12_length_22 : decode cX12_length 22 = .ok (.ireturn, 1) := by decide +kernel
theorem dX12_bounded_0 : decode cX12_bounded 0 = .ok (.lload_n 0, 1) := by decide +kernel
theorem dX12_bounded_1 : decode cX12_bounded 1 = .ok (.ldc2_w 440, 3) := by decide +kernel
theorem dX12_bounded_4 : decode cX12_bounded 4 = .ok (.lcmp, 1) := by decide +kernel
theorem dX12_bounded_5 : decode cX12_bounded 5 = .ok (.ifCond .le 9, 3) := by decide +kernel
theorem dX12_bounded_8 : decode cX12_bounded 8 = .ok (.ldc_w 442, 3) := by decide +kernel
theorem dX12_bounded_11 : decode cX12_bounded 11 = .ok (.goto 19, 3) := by decide +kernel
theorem dX12_bounded_14 : decode cX12_bounded 14 = .ok (.lload_n 0, 1) := by decide +kernel
theorem dX12_bounded_15 : decode cX12_bounded 15 = .ok (.ldc2_w 443, 3) := by decide +kernel
theorem dX12_bounded_18 : decode cX12_bounded 18 = .ok (.lcmp, 1) := by decide +kernel
theorem dX12_bounded_19 : decode cX12_bounded 19 = .ok (.ifCond .ge 9, 3) := by decide +kernel
theorem dX12_bounded_22 : decode cX12_bounded 22 = .ok (.ldc_w 445, 3) := by decide +kernel
theorem dX12_bounded_25 : decode cX12_bounded 25 = .ok (.goto 5, 3) := by decide +kernel
theorem dX12_bounded_28 : decode cX12_bounded 28 = .ok (.lload_n 0, 1) := by decide +kernel
theorem dX12_bounded_29 : decode cX12_bounded 29 = .ok (.l2i, 1) := by decide +kernel
theorem dX12_bounded_30 : decode cX12_bounded 30 = .ok (.ireturn, 1) := by decide +kernel
theorem dX12_joined_0 : decode cX12_joined 0 = .ok (.iload_n 0, 1) := by decide +kernel
theorem dX12_joined_1 : decode cX12_joined 1 = .ok (.tableswitch 131 (-10) (-1) #[82, 131, 131, 127, 116, 105, 94, 73, 64, 55], 55) := by decide +kernel
theorem dX12_joined_56 : decode cX12_joined 56 = .ok (.iload_n 1, 1) := by decide +kernel
theorem dX12_joined_57 : decode cX12_joined 57 = .ok (.i2l, 1) := by decide +kernel
theorem dX12_joined_58 : decode cX12_joined 58 = .ok (.iload_n 2, 1) := by decide +kernel
theorem dX12_joined_59 : decode cX12_joined 59 = .ok (.i2l, 1) := by decide +kernel
theorem dX12_joined_60 : decode cX12_joined 60 = .ok (.ladd, 1) := by decide +kernel
theorem dX12_joined_61 : decode cX12_joined 61 = .ok (.invokestatic 446, 3) := by decide +kernel
theorem dX12_joined_64 : decode cX12_joined 64 = .ok (.ireturn, 1) := by decide +kernel
theorem dX12_joined_65 : decode cX12_joined 65 = .ok (.iload_n 1, 1) := by decide +kernel
theorem dX12_joined_66 : decode cX12_joined 66 = .ok (.i2l, 1) := by decide +kernel
theorem dX12_joined_67 : decode cX12_joined 67 = .ok (.iload_n 2, 1) := by decide +kernel
theorem dX12_joined_68 : decode cX12_joined 68 = .ok (.i2l, 1) := by decide +kernel
theorem dX12_joined_69 : decode cX12_joined 69 = .ok (.lsub, 1) := by decide +kernel
theorem dX12_joined_70 : decode cX12_joined 70 = .ok (.invokestatic 446, 3) := by decide +kernel
theorem dX12_joined_73 : decode cX12_joined 73 = .ok (.ireturn, 1) := by decide +kernel
theorem dX12_joined_74 : decode cX12_joined 74 = .ok (.iload_n 1, 1) := by decide +kernel
theorem dX12_joined_75 : decode cX12_joined 75 = .ok (.i2l, 1) := by decide +kernel
theorem dX12_joined_76 : decode cX12_joined 76 = .ok (.iload_n 2, 1) := by decide +kernel
theorem dX12_joined_77 : decode cX12_joined 77 = .ok (.i2l, 1) := by decide +kernel
theorem dX12_joined_78 : decode cX12_joined 78 = .ok (.lmul, 1) := by decide +kernel
theorem dX12_joined_79 : decode cX12_joined 79 = .ok (.invokestatic 446, 3) := by decide +kernel
theorem dX12_joined_82 : decode cX12_joined 82 = .ok (.ireturn, 1) := by decide +kernel
theorem dX12_joined_83 : decode cX12_joined 83 = .ok (.iload_n 2, 1) := by decide +kernel
theorem dX12_joined_84 : decode cX12_joined 84 = .ok (.ifCond .ne 7, 3) := by decide +kernel
theorem dX12_joined_87 : decode cX12_joined 87 = .ok (.iconst 0, 1) := by decide +kernel
theorem dX12_joined_88 : decode cX12_joined 88 = .ok (.goto 6, 3) := by decide +kernel
theorem dX12_joined_91 : decode cX12_joined 91 = .ok (.iload_n 1, 1) := by decide +kernel
theorem dX12_joined_92 : decode cX12_joined 92 = .ok (.iload_n 2, 1) := by decide +kernel
theorem dX12_joined_93 : decode cX12_joined 93 = .ok (.idiv, 1) := by decide +kernel
theorem dX12_joined_94 : decode cX12_joined 94 = .ok (.ireturn, 1) := by decide +kernel
theorem dX12_joined_95 : decode cX12_joined 95 = .ok (.iload_n 1, 1) := by decide +kernel
theorem dX12_joined_96 : decode cX12_joined 96 = .ok (.iload_n 2, 1) := by decide +kernel
theorem dX12_joined_97 : decode cX12_joined 97 = .ok (.if_icmp .ge 7, 3) := by decide +kernel
theorem dX12_joined_100 : decode cX12_joined 100 = .ok (.iconst 1, 1) := by decide +kernel
theorem dX12_joined_101 : decode cX12_joined 101 = .ok (.goto 4, 3) := by decide +kernel
theorem dX12_joined_104 : decode cX12_joined 104 = .ok (.iconst 0, 1) := by decide +kernel
theorem dX12_joined_105 : decode cX12_joined 105 = .ok (.ireturn, 1) := by decide +kernel
theorem dX12_joined_106 : decode cX12_joined 106 = .ok (.iload_n 1, 1) := by decide +kernel
theorem dX12_joined_107 : decode cX12_joined 107 = .ok (.iload_n 2, 1) := by decide +kernel
theorem dX12_joined_108 : decode cX12_joined 108 = .ok (.if_icmp .le 7, 3) := by decide +kernel
theorem dX12_joined_111 : decode cX12_joined 111 = .ok (.iconst 1, 1) := by decide +kernel
theorem dX12_joined_112 : decode cX12_joined 112 = .ok (.goto 4, 3) := by decide +kernel
theorem dX12_joined_115 : decode cX12_joined 115 = .ok (.iconst 0, 1) := by decide +kernel
theorem dX12_joined_116 : decode cX12_joined 116 = .ok (.ireturn, 1) := by decide +kernel
theorem dX12_joined_117 : decode cX12_joined 117 = .ok (.iload_n 1, 1) := by decide +kernel
theorem dX12_joined_118 : decode cX12_joined 118 = .ok (.iload_n 2, 1) := by decide +kernel
theorem dX12_joined_119 : decode cX12_joined 119 = .ok (.if_icmp .ne 7, 3) := by decide +kernel
theorem dX12_joined_122 : decode cX12_joined 122 = .ok (.iconst 1, 1) := by decide +kernel
theorem dX12_joined_123 : decode cX12_joined 123 = .ok (.goto 4, 3) := by decide +kernel
theorem dX12_joined_126 : decode cX12_joined 126 = .ok (.iconst 0, 1) := by decide +kernel
theorem dX12_joined_127 : decode cX12_joined 127 = .ok (.ireturn, 1) := by decide +kernel
theorem dX12_joined_128 : decode cX12_joined 128 = .ok (.iload_n 1, 1) := by decide +kernel
theorem dX12_joined_129 : decode cX12_joined 129 = .ok (.iload_n 2, 1) := by decide +kernel
theorem dX12_joined_130 : decode cX12_joined 130 = .ok (.imul, 1) := by decide +kernel
theorem dX12_joined_131 : decode cX12_joined 131 = .ok (.ireturn, 1) := by decide +kernel
theorem dX12_joined_132 : decode cX12_joined 132 = .ok (.iload_n 1, 1) := by decide +kernel
theorem dX12_joined_133 : decode cX12_joined 133 = .ok (.iload_n 2, 1) := by decide +kernel
theorem dX12_joined_134 : decode cX12_joined 134 = .ok (.iadd, 1) := by decide +kernel
theorem dX12_joined_135 : decode cX12_joined 135 = .ok (.ifCond .le 7, 3) := by decide +kernel
theorem dX12_joined_138 : decode cX12_joined 138 = .ok (.iconst 1, 1) := by decide +kernel
theorem dX12_joined_139 : decode cX12_joined 139 = .ok (.goto 4, 3) := by decide +kernel
theorem dX12_joined_142 : decode cX12_joined 142 = .ok (.iconst 0, 1) := by decide +kernel
theorem dX12_joined_143 : decode cX12_joined 143 = .ok (.ireturn, 1) := by decide +kernel
theorem dX12_works_0 : decode cX12_works 0 = .ok (.iconst 0, 1) := by decide +kernel
theorem dX12_works_1 : decode cX12_works 1 = .ok (.istore_n 2, 1) := by decide +kernel
theorem dX12_works_2 : decode cX12_works 2 = .ok (.sipush 320, 3) := by decide +kernel
theorem dX12_works_5 : decode cX12_works 5 = .ok (.iload_n 1, 1) := by decide +kernel
theorem dX12_works_6 : decode cX12_works 6 = .ok (.bipush 15, 2) := by decide +kernel
theorem dX12_works_8 : decode cX12_works 8 = .ok (.idiv, 1) := by decide +kernel
theorem dX12_works_9 : decode cX12_works 9 = .ok (.imul, 1) := by decide +kernel
theorem dX12_works_10 : decode cX12_works 10 = .ok (.istore_n 3, 1) := by decide +kernel
theorem dX12_works_11 : decode cX12_works 11 = .ok (.aload_n 0, 1) := by decide +kernel
theorem dX12_works_12 : decode cX12_works 12 = .ok (.getfield 126, 3) := by decide +kernel
theorem dX12_works_15 : decode cX12_works 15 = .ok (.iload_n 1, 1) := by decide +kernel
theorem dX12_works_16 : decode cX12_works 16 = .ok (.iaload, 1) := by decide +kernel
theorem dX12_works_17 : decode cX12_works 17 = .ok (.istore 4, 2) := by decide +kernel
theorem dX12_works_19 : decode cX12_works 19 = .ok (.iload 4, 2) := by decide +kernel
theorem dX12_works_21 : decode cX12_works 21 = .ok (.aload_n 0, 1) := by decide +kernel
theorem dX12_works_22 : decode cX12_works 22 = .ok (.getfield 129, 3) := by decide +kernel
theorem dX12_works_25 : decode cX12_works 25 = .ok (.iload_n 1, 1) := by decide +kernel
theorem dX12_works_26 : decode cX12_works 26 = .ok (.iaload, 1) := by decide +kernel
theorem dX12_works_27 : decode cX12_works 27 = .ok (.if_icmp .ge 119, 3) := by decide +kernel
theorem dX12_works_30 : decode cX12_works 30 = .ok (.aload_n 0, 1) := by decide +kernel
theorem dX12_works_31 : decode cX12_works 31 = .ok (.getfield 111, 3) := by decide +kernel
theorem dX12_works_34 : decode cX12_works 34 = .ok (.iload_n 3, 1) := by decide +kernel
theorem dX12_works_35 : decode cX12_works 35 = .ok (.iload 4, 2) := by decide +kernel
theorem dX12_works_37 : decode cX12_works 37 = .ok (.iadd, 1) := by decide +kernel
theorem dX12_works_38 : decode cX12_works 38 = .ok (.iaload, 1) := by decide +kernel
theorem dX12_works_39 : decode cX12_works 39 = .ok (.istore 5, 2) := by decide +kernel
theorem dX12_works_41 : decode cX12_works 41 = .ok (.iload 5, 2) := by decide +kernel
theorem dX12_works_43 : decode cX12_works 43 = .ok (.ifCond .lt 39, 3) := by decide +kernel
theorem dX12_works_46 : decode cX12_works 46 = .ok (.aload_n 0, 1) := by decide +kernel
theorem dX12_works_47 : decode cX12_works 47 = .ok (.getfield 142, 3) := by decide +kernel
theorem dX12_works_50 : decode cX12_works 50 = .ok (.iload_n 2, 1) := by decide +kernel
theorem dX12_works_51 : decode cX12_works 51 = .ok (.iload 5, 2) := by decide +kernel
theorem dX12_works_53 : decode cX12_works 53 = .ok (.sipush 10000, 3) := by decide +kernel
theorem dX12_works_56 : decode cX12_works 56 = .ok (.if_icmp .lt 17, 3) := by decide +kernel
theorem dX12_works_59 : decode cX12_works 59 = .ok (.aload_n 0, 1) := by decide +kernel
theorem dX12_works_60 : decode cX12_works 60 = .ok (.getfield 139, 3) := by decide +kernel
theorem dX12_works_63 : decode cX12_works 63 = .ok (.iload 5, 2) := by decide +kernel
theorem dX12_works_65 : decode cX12_works 65 = .ok (.sipush 10000, 3) := by decide +kernel
theorem dX12_works_68 : decode cX12_works 68 = .ok (.isub, 1) := by decide +kernel
theorem dX12_works_69 : decode cX12_works 69 = .ok (.iaload, 1) := by decide +kernel
theorem dX12_works_70 : decode cX12_works 70 = .ok (.goto 5, 3) := by decide +kernel
theorem dX12_works_73 : decode cX12_works 73 = .ok (.iload 5, 2) := by decide +kernel
theorem dX12_works_75 : decode cX12_works 75 = .ok (.iastore, 1) := by decide +kernel
theorem dX12_works_76 : decode cX12_works 76 = .ok (.iinc 2 1, 3) := by decide +kernel
theorem dX12_works_79 : decode cX12_works 79 = .ok (.goto 61, 3) := by decide +kernel
theorem dX12_works_82 : decode cX12_works 82 = .ok (.iload 5, 2) := by decide +kernel
theorem dX12_works_84 : decode cX12_works 84 = .ok (.bipush (-9), 2) := by decide +kernel
theorem dX12_works_86 : decode cX12_works 86 = .ok (.if_icmp .ne 24, 3) := by decide +kernel
theorem dX12_works_89 : decode cX12_works 89 = .ok (.aload_n 0, 1) := by decide +kernel
theorem dX12_works_90 : decode cX12_works 90 = .ok (.getfield 142, 3) := by decide +kernel
theorem dX12_works_93 : decode cX12_works 93 = .ok (.iload_n 2, 1) := by decide +kernel
theorem dX12_works_94 : decode cX12_works 94 = .ok (.iconst 1, 1) := by decide +kernel
theorem dX12_works_95 : decode cX12_works 95 = .ok (.isub, 1) := by decide +kernel
theorem dX12_works_96 : decode cX12_works 96 = .ok (.iconst 1, 1) := by decide +kernel
theorem dX12_works_97 : decode cX12_works 97 = .ok (.aload_n 0, 1) := by decide +kernel
theorem dX12_works_98 : decode cX12_works 98 = .ok (.getfield 142, 3) := by decide +kernel
theorem dX12_works_101 : decode cX12_works 101 = .ok (.iload_n 2, 1) := by decide +kernel
theorem dX12_works_102 : decode cX12_works 102 = .ok (.iconst 1, 1) := by decide +kernel
theorem dX12_works_103 : decode cX12_works 103 = .ok (.isub, 1) := by decide +kernel
theorem dX12_works_104 : decode cX12_works 104 = .ok (.iaload, 1) := by decide +kernel
theorem dX12_works_105 : decode cX12_works 105 = .ok (.isub, 1) := by decide +kernel
theorem dX12_works_106 : decode cX12_works 106 = .ok (.iastore, 1) := by decide +kernel
theorem dX12_works_107 : decode cX12_works 107 = .ok (.goto 33, 3) := by decide +kernel
theorem dX12_works_110 : decode cX12_works 110 = .ok (.iinc 2 (-1), 3) := by decide +kernel
theorem dX12_works_113 : decode cX12_works 113 = .ok (.aload_n 0, 1) := by decide +kernel
theorem dX12_works_114 : decode cX12_works 114 = .ok (.getfield 142, 3) := by decide +kernel
theorem dX12_works_117 : decode cX12_works 117 = .ok (.iload_n 2, 1) := by decide +kernel
theorem dX12_works_118 : decode cX12_works 118 = .ok (.iconst 1, 1) := by decide +kernel
theorem dX12_works_119 : decode cX12_works 119 = .ok (.isub, 1) := by decide +kernel
theorem dX12_works_120 : decode cX12_works 120 = .ok (.iload 5, 2) := by decide +kernel
theorem dX12_works_122 : decode cX12_works 122 = .ok (.aload_n 0, 1) := by decide +kernel
theorem dX12_works_123 : decode cX12_works 123 = .ok (.getfield 142, 3) := by decide +kernel
theorem dX12_works_126 : decode cX12_works 126 = .ok (.iload_n 2, 1) := by decide +kernel
theorem dX12_works_127 : decode cX12_works 127 = .ok (.iconst 1, 1) := by decide +kernel
theorem dX12_works_128 : decode cX12_works 128 = .ok (.isub, 1) := by decide +kernel
theorem dX12_works_129 : decode cX12_works 129 = .ok (.iaload, 1) := by decide +kernel
theorem dX12_works_130 : decode cX12_works 130 = .ok (.aload_n 0, 1) := by decide +kernel
theorem dX12_works_131 : decode cX12_works 131 = .ok (.getfield 142, 3) := by decide +kernel
theorem dX12_works_134 : decode cX12_works 134 = .ok (.iload_n 2, 1) := by decide +kernel
theorem dX12_works_135 : decode cX12_works 135 = .ok (.iaload, 1) := by decide +kernel
theorem dX12_works_136 : decode cX12_works 136 = .ok (.invokestatic 450, 3) := by decide +kernel
theorem dX12_works_139 : decode cX12_works 139 = .ok (.iastore, 1) := by decide +kernel
theorem dX12_works_140 : decode cX12_works 140 = .ok (.iinc 4 1, 3) := by decide +kernel
theorem dX12_works_143 : decode cX12_works 143 = .ok (.goto (-124), 3) := by decide +kernel
theorem dX12_works_146 : decode cX12_works 146 = .ok (.aload_n 0, 1) := by decide +kernel
theorem dX12_works_147 : decode cX12_works 147 = .ok (.getfield 142, 3) := by decide +kernel
theorem dX12_works_150 : decode cX12_works 150 = .ok (.iconst 0, 1) := by decide +kernel
theorem dX12_works_151 : decode cX12_works 151 = .ok (.iaload, 1) := by decide +kernel
theorem dX12_works_152 : decode cX12_works 152 = .ok (.ireturn, 1) := by decide +kernel
theorem dX12_paidOf_0 : decode cX12_paidOf 0 = .ok (.aload_n 0, 1) := by decide +kernel
theorem dX12_paidOf_1 : decode cX12_paidOf 1 = .ok (.iconst 4, 1) := by decide +kernel
theorem dX12_paidOf_2 : decode cX12_paidOf 2 = .ok (.invokevirtual 437, 3) := by decide +kernel
theorem dX12_paidOf_5 : decode cX12_paidOf 5 = .ok (.istore_n 3, 1) := by decide +kernel
theorem dX12_paidOf_6 : decode cX12_paidOf 6 = .ok (.aload_n 0, 1) := by decide +kernel
theorem dX12_paidOf_7 : decode cX12_paidOf 7 = .ok (.iconst 0, 1) := by decide +kernel
theorem dX12_paidOf_8 : decode cX12_paidOf 8 = .ok (.iload_n 1, 1) := by decide +kernel
theorem dX12_paidOf_9 : decode cX12_paidOf 9 = .ok (.iconst 0, 1) := by decide +kernel
theorem dX12_paidOf_10 : decode cX12_paidOf 10 = .ok (.iload_n 2, 1) := by decide +kernel
theorem dX12_paidOf_11 : decode cX12_paidOf 11 = .ok (.iconst 0, 1) := by decide +kernel
theorem dX12_paidOf_12 : decode cX12_paidOf 12 = .ok (.invokevirtual 258, 3) := by decide +kernel
theorem dX12_paidOf_15 : decode cX12_paidOf 15 = .ok (.istore 4, 2) := by decide +kernel
theorem dX12_paidOf_17 : decode cX12_paidOf 17 = .ok (.aload_n 0, 1) := by decide +kernel
theorem dX12_paidOf_18 : decode cX12_paidOf 18 = .ok (.iconst 1, 1) := by decide +kernel
theorem dX12_paidOf_19 : decode cX12_paidOf 19 = .ok (.iload_n 1, 1) := by decide +kernel
theorem dX12_paidOf_20 : decode cX12_paidOf 20 = .ok (.iconst 0, 1) := by decide +kernel
theorem dX12_paidOf_21 : decode cX12_paidOf 21 = .ok (.iload_n 2, 1) := by decide +kernel
theorem dX12_paidOf_22 : decode cX12_paidOf 22 = .ok (.iconst 0, 1) := by decide +kernel
theorem dX12_paidOf_23 : decode cX12_paidOf 23 = .ok (.invokevirtual 258, 3) := by decide +kernel
theorem dX12_paidOf_26 : decode cX12_paidOf 26 = .ok (.iload_n 3, 1) := by decide +kernel
theorem dX12_paidOf_27 : decode cX12_paidOf 27 = .ok (.iconst (-1), 1) := by decide +kernel
theorem dX12_paidOf_28 : decode cX12_paidOf 28 = .ok (.if_icmp .ne 8, 3) := by decide +kernel
theorem dX12_paidOf_31 : decode cX12_paidOf 31 = .ok (.bipush 10, 2) := by decide +kernel
theorem dX12_paidOf_33 : decode cX12_paidOf 33 = .ok (.goto 9, 3) := by decide +kernel
theorem dX12_paidOf_36 : decode cX12_paidOf 36 = .ok (.aload_n 0, 1) := by decide +kernel
theorem dX12_paidOf_37 : decode cX12_paidOf 37 = .ok (.getfield 123, 3) := by decide +kernel
theorem dX12_paidOf_40 : decode cX12_paidOf 40 = .ok (.iload_n 3, 1) := by decide +kernel
theorem dX12_paidOf_41 : decode cX12_paidOf 41 = .ok (.iaload, 1) := by decide +kernel
theorem dX12_paidOf_42 : decode cX12_paidOf 42 = .ok (.idiv, 1) := by decide +kernel
theorem dX12_paidOf_43 : decode cX12_paidOf 43 = .ok (.istore 5, 2) := by decide +kernel
theorem dX12_paidOf_45 : decode cX12_paidOf 45 = .ok (.iload 4, 2) := by decide +kernel
theorem dX12_paidOf_47 : decode cX12_paidOf 47 = .ok (.iload 5, 2) := by decide +kernel
theorem dX12_paidOf_49 : decode cX12_paidOf 49 = .ok (.if_icmp .ge 8, 3) := by decide +kernel
theorem dX12_paidOf_52 : decode cX12_paidOf 52 = .ok (.iload 4, 2) := by decide +kernel
theorem dX12_paidOf_54 : decode cX12_paidOf 54 = .ok (.goto 5, 3) := by decide +kernel
theorem dX12_paidOf_57 : decode cX12_paidOf 57 = .ok (.iload 5, 2) := by decide +kernel
theorem dX12_paidOf_59 : decode cX12_paidOf 59 = .ok (.ireturn, 1) := by decide +kernel
theorem dX12_cardsOf_0 : decode cX12_cardsOf 0 = .ok (.aload_n 0, 1) := by decide +kernel
theorem dX12_cardsOf_1 : decode cX12_cardsOf 1 = .ok (.iconst 3, 1) := by decide +kernel
theorem dX12_cardsOf_2 : decode cX12_cardsOf 2 = .ok (.invokevirtual 437, 3) := by decide +kernel
theorem dX12_cardsOf_5 : decode cX12_cardsOf 5 = .ok (.istore_n 3, 1) := by decide +kernel
theorem dX12_cardsOf_6 : decode cX12_cardsOf 6 = .ok (.iload_n 3, 1) := by decide +kernel
theorem dX12_cardsOf_7 : decode cX12_cardsOf 7 = .ok (.iconst (-1), 1) := by decide +kernel
theorem dX12_cardsOf_8 : decode cX12_cardsOf 8 = .ok (.if_icmp .ne 10, 3) := by decide +kernel
theorem dX12_cardsOf_11 : decode cX12_cardsOf 11 = .ok (.aload_n 0, 1) := by decide +kernel
theorem dX12_cardsOf_12 : decode cX12_cardsOf 12 = .ok (.iload_n 1, 1) := by decide +kernel
theorem dX12_cardsOf_13 : decode cX12_cardsOf 13 = .ok (.iload_n 2, 1) := by decide +kernel
theorem dX12_cardsOf_14 : decode cX12_cardsOf 14 = .ok (.invokevirtual 453, 3) := by decide +kernel
theorem dX12_cardsOf_17 : decode cX12_cardsOf 17 = .ok (.ireturn, 1) := by decide +kernel
theorem dX12_cardsOf_18 : decode cX12_cardsOf 18 = .ok (.aload_n 0, 1) := by decide +kernel
theorem dX12_cardsOf_19 : decode cX12_cardsOf 19 = .ok (.getfield 139, 3) := by decide +kernel
theorem dX12_cardsOf_22 : decode cX12_cardsOf 22 = .ok (.bipush 6, 2) := by decide +kernel
theorem dX12_cardsOf_24 : decode cX12_cardsOf 24 = .ok (.aload_n 0, 1) := by decide +kernel
theorem dX12_cardsOf_25 : decode cX12_cardsOf 25 = .ok (.iload_n 1, 1) := by decide +kernel
theorem dX12_cardsOf_26 : decode cX12_cardsOf 26 = .ok (.iload_n 2, 1) := by decide +kernel
theorem dX12_cardsOf_27 : decode cX12_cardsOf 27 = .ok (.invokevirtual 453, 3) := by decide +kernel
theorem dX12_cardsOf_30 : decode cX12_cardsOf 30 = .ok (.iastore, 1) := by decide +kernel
theorem dX12_cardsOf_31 : decode cX12_cardsOf 31 = .ok (.aload_n 0, 1) := by decide +kernel
theorem dX12_cardsOf_32 : decode cX12_cardsOf 32 = .ok (.getfield 139, 3) := by decide +kernel
theorem dX12_cardsOf_35 : decode cX12_cardsOf 35 = .ok (.bipush 7, 2) := by decide +kernel
theorem dX12_cardsOf_37 : decode cX12_cardsOf 37 = .ok (.iconst 0, 1) := by decide +kernel
theorem dX12_cardsOf_38 : decode cX12_cardsOf 38 = .ok (.iastore, 1) := by decide +kernel
theorem dX12_cardsOf_39 : decode cX12_cardsOf 39 = .ok (.aload_n 0, 1) := by decide +kernel
theorem dX12_cardsOf_40 : decode cX12_cardsOf 40 = .ok (.getfield 139, 3) := by decide +kernel
theorem dX12_cardsOf_43 : decode cX12_cardsOf 43 = .ok (.bipush 8, 2) := by decide +kernel
theorem dX12_cardsOf_45 : decode cX12_cardsOf 45 = .ok (.iconst 0, 1) := by decide +kernel
theorem dX12_cardsOf_46 : decode cX12_cardsOf 46 = .ok (.iastore, 1) := by decide +kernel
theorem dX12_cardsOf_47 : decode cX12_cardsOf 47 = .ok (.aload_n 0, 1) := by decide +kernel
theorem dX12_cardsOf_48 : decode cX12_cardsOf 48 = .ok (.getfield 139, 3) := by decide +kernel
theorem dX12_cardsOf_51 : decode cX12_cardsOf 51 = .ok (.bipush 9, 2) := by decide +kernel
theorem dX12_cardsOf_53 : decode cX12_cardsOf 53 = .ok (.aload_n 0, 1) := by decide +kernel
theorem dX12_cardsOf_54 : decode cX12_cardsOf 54 = .ok (.getfield 13, 3) := by decide +kernel
theorem dX12_cardsOf_57 : decode cX12_cardsOf 57 = .ok (.iload_n 1, 1) := by decide +kernel
theorem dX12_cardsOf_58 : decode cX12_cardsOf 58 = .ok (.iaload, 1) := by decide +kernel
theorem dX12_cardsOf_59 : decode cX12_cardsOf 59 = .ok (.iastore, 1) := by decide +kernel
theorem dX12_cardsOf_60 : decode cX12_cardsOf 60 = .ok (.iconst 0, 1) := by decide +kernel
theorem dX12_cardsOf_61 : decode cX12_cardsOf 61 = .ok (.istore 4, 2) := by decide +kernel
theorem dX12_cardsOf_63 : decode cX12_cardsOf 63 = .ok (.iload 4, 2) := by decide +kernel
theorem dX12_cardsOf_65 : decode cX12_cardsOf 65 = .ok (.aload_n 0, 1) := by decide +kernel
theorem dX12_cardsOf_66 : decode cX12_cardsOf 66 = .ok (.getfield 223, 3) := by decide +kernel
theorem dX12_cardsOf_69 : decode cX12_cardsOf 69 = .ok (.if_icmp .ge 51, 3) := by decide +kernel
theorem dX12_cardsOf_72 : decode cX12_cardsOf 72 = .ok (.aload_n 0, 1) := by decide +kernel
theorem dX12_cardsOf_73 : decode cX12_cardsOf 73 = .ok (.getfield 17, 3) := by decide +kernel
theorem dX12_cardsOf_76 : decode cX12_cardsOf 76 = .ok (.iload 4, 2) := by decide +kernel
theorem dX12_cardsOf_78 : decode cX12_cardsOf 78 = .ok (.iaload, 1) := by decide +kernel
theorem dX12_cardsOf_79 : decode cX12_cardsOf 79 = .ok (.iload_n 1, 1) := by decide +kernel
theorem dX12_cardsOf_80 : decode cX12_cardsOf 80 = .ok (.if_icmp .eq 6, 3) := by decide +kernel
theorem dX12_cardsOf_83 : decode cX12_cardsOf 83 = .ok (.goto 31, 3) := by decide +kernel
theorem dX12_cardsOf_86 : decode cX12_cardsOf 86 = .ok (.aload_n 0, 1) := by decide +kernel
theorem dX12_cardsOf_87 : decode cX12_cardsOf 87 = .ok (.getfield 139, 3) := by decide +kernel
theorem dX12_cardsOf_90 : decode cX12_cardsOf 90 = .ok (.bipush 7, 2) := by decide +kernel
theorem dX12_cardsOf_92 : decode cX12_cardsOf 92 = .ok (.dup2, 1) := by decide +kernel
theorem dX12_cardsOf_93 : decode cX12_cardsOf 93 = .ok (.iaload, 1) := by decide +kernel
theorem dX12_cardsOf_94 : decode cX12_cardsOf 94 = .ok (.iconst 1, 1) := by decide +kernel
theorem dX12_cardsOf_95 : decode cX12_cardsOf 95 = .ok (.iadd, 1) := by decide +kernel
theorem dX12_cardsOf_96 : decode cX12_cardsOf 96 = .ok (.iastore, 1) := by decide +kernel
theorem dX12_cardsOf_97 : decode cX12_cardsOf 97 = .ok (.aload_n 0, 1) := by decide +kernel
theorem dX12_cardsOf_98 : decode cX12_cardsOf 98 = .ok (.getfield 139, 3) := by decide +kernel
theorem dX12_cardsOf_101 : decode cX12_cardsOf 101 = .ok (.bipush 8, 2) := by decide +kernel
theorem dX12_cardsOf_103 : decode cX12_cardsOf 103 = .ok (.dup2, 1) := by decide +kernel
theorem dX12_cardsOf_104 : decode cX12_cardsOf 104 = .ok (.iaload, 1) := by decide +kernel
theorem dX12_cardsOf_105 : decode cX12_cardsOf 105 = .ok (.aload_n 0, 1) := by decide +kernel
theorem dX12_cardsOf_106 : decode cX12_cardsOf 106 = .ok (.getfield 20, 3) := by decide +kernel
theorem dX12_cardsOf_109 : decode cX12_cardsOf 109 = .ok (.iload 4, 2) := by decide +kernel
theorem dX12_cardsOf_111 : decode cX12_cardsOf 111 = .ok (.iaload, 1) := by decide +kernel
theorem dX12_cardsOf_112 : decode cX12_cardsOf 112 = .ok (.iadd, 1) := by decide +kernel
theorem dX12_cardsOf_113 : decode cX12_cardsOf 113 = .ok (.iastore, 1) := by decide +kernel
theorem dX12_cardsOf_114 : decode cX12_cardsOf 114 = .ok (.iinc 4 1, 3) := by decide +kernel
theorem dX12_cardsOf_117 : decode cX12_cardsOf 117 = .ok (.goto (-54), 3) := by decide +kernel
theorem dX12_cardsOf_120 : decode cX12_cardsOf 120 = .ok (.aload_n 0, 1) := by decide +kernel
theorem dX12_cardsOf_121 : decode cX12_cardsOf 121 = .ok (.iload_n 3, 1) := by decide +kernel
theorem dX12_cardsOf_122 : decode cX12_cardsOf 122 = .ok (.invokevirtual 457, 3) := by decide +kernel
theorem dX12_cardsOf_125 : decode cX12_cardsOf 125 = .ok (.istore 4, 2) := by decide +kernel
theorem dX12_cardsOf_127 : decode cX12_cardsOf 127 = .ok (.iload 4, 2) := by decide +kernel
theorem dX12_cardsOf_129 : decode cX12_cardsOf 129 = .ok (.ifCond .le 8, 3) := by decide +kernel
theorem dX12_cardsOf_132 : decode cX12_cardsOf 132 = .ok (.iload 4, 2) := by decide +kernel
theorem dX12_cardsOf_134 : decode cX12_cardsOf 134 = .ok (.goto 4, 3) := by decide +kernel
theorem dX12_cardsOf_137 : decode cX12_cardsOf 137 = .ok (.iconst 0, 1) := by decide +kernel
theorem dX12_cardsOf_138 : decode cX12_cardsOf 138 = .ok (.ireturn, 1) := by decide +kernel
theorem dX12_paid_0 : decode cX12_paid 0 = .ok (.aload_n 0, 1) := by decide +kernel
theorem dX12_paid_1 : decode cX12_paid 1 = .ok (.iconst 0, 1) := by decide +kernel
theorem dX12_paid_2 : decode cX12_paid 2 = .ok (.putfield 1, 3) := by decide +kernel
theorem dX12_paid_5 : decode cX12_paid 5 = .ok (.aload_n 0, 1) := by decide +kernel
theorem dX12_paid_6 : decode cX12_paid 6 = .ok (.iload_n 1, 1) := by decide +kernel
theorem dX12_paid_7 : decode cX12_paid 7 = .ok (.invokevirtual 219, 3) := by decide +kernel
theorem dX12_paid_10 : decode cX12_paid 10 = .ok (.ifCond .eq 20, 3) := by decide +kernel
theorem dX12_paid_13 : decode cX12_paid 13 = .ok (.aload_n 0, 1) := by decide +kernel
theorem dX12_paid_14 : decode cX12_paid 14 = .ok (.iload_n 2, 1) := by decide +kernel
theorem dX12_paid_15 : decode cX12_paid 15 = .ok (.invokevirtual 270, 3) := by decide +kernel
theorem dX12_paid_18 : decode cX12_paid 18 = .ok (.ifCond .eq 12, 3) := by decide +kernel
theorem dX12_paid_21 : decode cX12_paid 21 = .ok (.aload_n 0, 1) := by decide +kernel
theorem dX12_paid_22 : decode cX12_paid 22 = .ok (.iload_n 1, 1) := by decide +kernel
theorem dX12_paid_23 : decode cX12_paid 23 = .ok (.iload_n 2, 1) := by decide +kernel
theorem dX12_paid_24 : decode cX12_paid 24 = .ok (.invokevirtual 453, 3) := by decide +kernel
theorem dX12_paid_27 : decode cX12_paid 27 = .ok (.goto 4, 3) := by decide +kernel
theorem dX12_paid_30 : decode cX12_paid 30 = .ok (.iconst (-1), 1) := by decide +kernel
theorem dX12_paid_31 : decode cX12_paid 31 = .ok (.ireturn, 1) := by decide +kernel
theorem dX12_cards_0 : decode cX12_cards 0 = .ok (.aload_n 0, 1) := by decide +kernel
theorem dX12_cards_1 : decode cX12_cards 1 = .ok (.iconst 0, 1) := by decide +kernel
theorem dX12_cards_2 : decode cX12_cards 2 = .ok (.putfield 1, 3) := by decide +kernel
theorem dX12_cards_5 : decode cX12_cards 5 = .ok (.aload_n 0, 1) := by decide +kernel
theorem dX12_cards_6 : decode cX12_cards 6 = .ok (.iload_n 1, 1) := by decide +kernel
theorem dX12_cards_7 : decode cX12_cards 7 = .ok (.invokevirtual 219, 3) := by decide +kernel
theorem dX12_cards_10 : decode cX12_cards 10 = .ok (.ifCond .eq 20, 3) := by decide +kernel
theorem dX12_cards_13 : decode cX12_cards 13 = .ok (.aload_n 0, 1) := by decide +kernel
theorem dX12_cards_14 : decode cX12_cards 14 = .ok (.iload_n 2, 1) := by decide +kernel
theorem dX12_cards_15 : decode cX12_cards 15 = .ok (.invokevirtual 270, 3) := by decide +kernel
theorem dX12_cards_18 : decode cX12_cards 18 = .ok (.ifCond .eq 12, 3) := by decide +kernel
theorem dX12_cards_21 : decode cX12_cards 21 = .ok (.aload_n 0, 1) := by decide +kernel
theorem dX12_cards_22 : decode cX12_cards 22 = .ok (.iload_n 1, 1) := by decide +kernel
theorem dX12_cards_23 : decode cX12_cards 23 = .ok (.iload_n 2, 1) := by decide +kernel
theorem dX12_cards_24 : decode cX12_cards 24 = .ok (.invokevirtual 460, 3) := by decide +kernel
theorem dX12_cards_27 : decode cX12_cards 27 = .ok (.goto 4, 3) := by decide +kernel
theorem dX12_cards_30 : decode cX12_cards 30 = .ok (.iconst (-1), 1) := by decide +kernel
theorem dX12_cards_31 : decode cX12_cards 31 = .ok (.ireturn, 1) := by decide +kernel
theorem dX12_counts_0 : decode cX12_counts 0 = .ok (.aload_n 0, 1) := by decide +kernel
theorem dX12_counts_1 : decode cX12_counts 1 = .ok (.dup, 1) := by decide +kernel
theorem dX12_counts_2 : decode cX12_counts 2 = .ok (.getfield 463, 3) := by decide +kernel
theorem dX12_counts_5 : decode cX12_counts 5 = .ok (.iload_n 3, 1) := by decide +kernel
theorem dX12_counts_6 : decode cX12_counts 6 = .ok (.i2l, 1) := by decide +kernel
theorem dX12_counts_7 : decode cX12_counts 7 = .ok (.ladd, 1) := by decide +kernel
theorem dX12_counts_8 : decode cX12_counts 8 = .ok (.putfield 463, 3) := by decide +kernel
theorem dX12_counts_11 : decode cX12_counts 11 = .ok (.iload_n 1, 1) := by decide +kernel
theorem dX12_counts_12 : decode cX12_counts 12 = .ok (.iconst 1, 1) := by decide +kernel
theorem dX12_counts_13 : decode cX12_counts 13 = .ok (.if_icmp .ne 28, 3) := by decide +kernel
theorem dX12_counts_16 : decode cX12_counts 16 = .ok (.aload_n 0, 1) := by decide +kernel
theorem dX12_counts_17 : decode cX12_counts 17 = .ok (.dup, 1) := by decide +kernel
theorem dX12_counts_18 : decode cX12_counts 18 = .ok (.getfield 466, 3) := by decide +kernel
theorem dX12_counts_21 : decode cX12_counts 21 = .ok (.iload_n 3, 1) := by decide +kernel
theorem dX12_counts_22 : decode cX12_counts 22 = .ok (.i2l, 1) := by decide +kernel
theorem dX12_counts_23 : decode cX12_counts 23 = .ok (.ladd, 1) := by decide +kernel
theorem dX12_counts_24 : decode cX12_counts 24 = .ok (.putfield 466, 3) := by decide +kernel
theorem dX12_counts_27 : decode cX12_counts 27 = .ok (.aload_n 0, 1) := by decide +kernel
theorem dX12_counts_28 : decode cX12_counts 28 = .ok (.getfield 148, 3) := by decide +kernel
theorem dX12_counts_31 : decode cX12_counts 31 = .ok (.iload_n 2, 1) := by decide +kernel
theorem dX12_counts_32 : decode cX12_counts 32 = .ok (.dup2, 1) := by decide +kernel
theorem dX12_counts_33 : decode cX12_counts 33 = .ok (.laload, 1) := by decide +kernel
theorem dX12_counts_34 : decode cX12_counts 34 = .ok (.iload_n 3, 1) := by decide +kernel
theorem dX12_counts_35 : decode cX12_counts 35 = .ok (.i2l, 1) := by decide +kernel
theorem dX12_counts_36 : decode cX12_counts 36 = .ok (.ladd, 1) := by decide +kernel
theorem dX12_counts_37 : decode cX12_counts 37 = .ok (.lastore, 1) := by decide +kernel
theorem dX12_counts_38 : decode cX12_counts 38 = .ok (.goto 29, 3) := by decide +kernel
theorem dX12_counts_41 : decode cX12_counts 41 = .ok (.iload_n 1, 1) := by decide +kernel
theorem dX12_counts_42 : decode cX12_counts 42 = .ok (.ifCond .ne 25, 3) := by decide +kernel
theorem dX12_counts_45 : decode cX12_counts 45 = .ok (.aload_n 0, 1) := by decide +kernel
theorem dX12_counts_46 : decode cX12_counts 46 = .ok (.dup, 1) := by decide +kernel
theorem dX12_counts_47 : decode cX12_counts 47 = .ok (.getfield 468, 3) := by decide +kernel
theorem dX12_counts_50 : decode cX12_counts 50 = .ok (.iload_n 3, 1) := by decide +kernel
theorem dX12_counts_51 : decode cX12_counts 51 = .ok (.i2l, 1) := by decide +kernel
theorem dX12_counts_52 : decode cX12_counts 52 = .ok (.ladd, 1) := by decide +kernel
theorem dX12_counts_53 : decode cX12_counts 53 = .ok (.putfield 468, 3) := by decide +kernel
theorem dX12_counts_56 : decode cX12_counts 56 = .ok (.aload_n 0, 1) := by decide +kernel
theorem dX12_counts_57 : decode cX12_counts 57 = .ok (.getfield 148, 3) := by decide +kernel
theorem dX12_counts_60 : decode cX12_counts 60 = .ok (.iload_n 2, 1) := by decide +kernel
theorem dX12_counts_61 : decode cX12_counts 61 = .ok (.dup2, 1) := by decide +kernel
theorem dX12_counts_62 : decode cX12_counts 62 = .ok (.laload, 1) := by decide +kernel
theorem dX12_counts_63 : decode cX12_counts 63 = .ok (.iload_n 3, 1) := by decide +kernel
theorem dX12_counts_64 : decode cX12_counts 64 = .ok (.i2l, 1) := by decide +kernel
theorem dX12_counts_65 : decode cX12_counts 65 = .ok (.lsub, 1) := by decide +kernel
theorem dX12_counts_66 : decode cX12_counts 66 = .ok (.lastore, 1) := by decide +kernel
theorem dX12_counts_67 : decode cX12_counts 67 = .ok (.return_, 1) := by decide +kernel
theorem dX12_findCount_0 : decode cX12_findCount 0 = .ok (.aload_n 0, 1) := by decide +kernel
theorem dX12_findCount_1 : decode cX12_findCount 1 = .ok (.lconst 0, 1) := by decide +kernel
theorem dX12_findCount_2 : decode cX12_findCount 2 = .ok (.putfield 466, 3) := by decide +kernel
theorem dX12_findCount_5 : decode cX12_findCount 5 = .ok (.aload_n 0, 1) := by decide +kernel
theorem dX12_findCount_6 : decode cX12_findCount 6 = .ok (.lconst 0, 1) := by decide +kernel
theorem dX12_findCount_7 : decode cX12_findCount 7 = .ok (.putfield 468, 3) := by decide +kernel
theorem dX12_findCount_10 : decode cX12_findCount 10 = .ok (.aload_n 0, 1) := by decide +kernel
theorem dX12_findCount_11 : decode cX12_findCount 11 = .ok (.lconst 0, 1) := by decide +kernel
theorem dX12_findCount_12 : decode cX12_findCount 12 = .ok (.putfield 463, 3) := by decide +kernel
theorem dX12_findCount_15 : decode cX12_findCount 15 = .ok (.aload_n 0, 1) := by decide +kernel
theorem dX12_findCount_16 : decode cX12_findCount 16 = .ok (.iconst 0, 1) := by decide +kernel
theorem dX12_findCount_17 : decode cX12_findCount 17 = .ok (.putfield 470, 3) := by decide +kernel
theorem dX12_findCount_20 : decode cX12_findCount 20 = .ok (.iconst 0, 1) := by decide +kernel
theorem dX12_findCount_21 : decode cX12_findCount 21 = .ok (.istore 6, 2) := by decide +kernel
theorem dX12_findCount_23 : decode cX12_findCount 23 = .ok (.iload 6, 2) := by decide +kernel
theorem dX12_findCount_25 : decode cX12_findCount 25 = .ok (.bipush 6, 2) := by decide +kernel
theorem dX12_findCount_27 : decode cX12_findCount 27 = .ok (.if_icmp .ge 17, 3) := by decide +kernel
theorem dX12_findCount_30 : decode cX12_findCount 30 = .ok (.aload_n 0, 1) := by decide +kernel
theorem dX12_findCount_31 : decode cX12_findCount 31 = .ok (.getfield 148, 3) := by decide +kernel
theorem dX12_findCount_34 : decode cX12_findCount 34 = .ok (.iload 6, 2) := by decide +kernel
theorem dX12_findCount_36 : decode cX12_findCount 36 = .ok (.lconst 0, 1) := by decide +kernel
theorem dX12_findCount_37 : decode cX12_findCount 37 = .ok (.lastore, 1) := by decide +kernel
theorem dX12_findCount_38 : decode cX12_findCount 38 = .ok (.iinc 6 1, 3) := by decide +kernel
theorem dX12_findCount_41 : decode cX12_findCount 41 = .ok (.goto (-18), 3) := by decide +kernel
theorem dX12_findCount_44 : decode cX12_findCount 44 = .ok (.iconst 0, 1) := by decide +kernel
theorem dX12_findCount_45 : decode cX12_findCount 45 = .ok (.istore 6, 2) := by decide +kernel
theorem dX12_findCount_47 : decode cX12_findCount 47 = .ok (.iload 6, 2) := by decide +kernel
theorem dX12_findCount_49 : decode cX12_findCount 49 = .ok (.aload_n 0, 1) := by decide +kernel
theorem dX12_findCount_50 : decode cX12_findCount 50 = .ok (.getfield 209, 3) := by decide +kernel
theorem dX12_findCount_53 : decode cX12_findCount 53 = .ok (.if_icmp .ge 103, 3) := by decide +kernel
theorem dX12_findCount_56 : decode cX12_findCount 56 = .ok (.iload_n 3, 1) := by decide +kernel
theorem dX12_findCount_57 : decode cX12_findCount 57 = .ok (.iconst 3, 1) := by decide +kernel
theorem dX12_findCount_58 : decode cX12_findCount 58 = .ok (.if_icmp .eq 98, 3) := by decide +kernel
theorem dX12_findCount_61 : decode cX12_findCount 61 = .ok (.aload_n 0, 1) := by decide +kernel
theorem dX12_findCount_62 : decode cX12_findCount 62 = .ok (.iload 6, 2) := by decide +kernel
theorem dX12_findCount_64 : decode cX12_findCount 64 = .ok (.iload_n 1, 1) := by decide +kernel
theorem dX12_findCount_65 : decode cX12_findCount 65 = .ok (.iload_n 2, 1) := by decide +kernel
theorem dX12_findCount_66 : decode cX12_findCount 66 = .ok (.invokevirtual 273, 3) := by decide +kernel
theorem dX12_findCount_69 : decode cX12_findCount 69 = .ok (.istore 7, 2) := by decide +kernel
theorem dX12_findCount_71 : decode cX12_findCount 71 = .ok (.iload 6, 2) := by decide +kernel
theorem dX12_findCount_73 : decode cX12_findCount 73 = .ok (.iload 4, 2) := by decide +kernel
theorem dX12_findCount_75 : decode cX12_findCount 75 = .ok (.if_icmp .ne 9, 3) := by decide +kernel
theorem dX12_findCount_78 : decode cX12_findCount 78 = .ok (.iconst 1, 1) := by decide +kernel
theorem dX12_findCount_79 : decode cX12_findCount 79 = .ok (.iload 7, 2) := by decide +kernel
theorem dX12_findCount_81 : decode cX12_findCount 81 = .ok (.isub, 1) := by decide +kernel
theorem dX12_findCount_82 : decode cX12_findCount 82 = .ok (.istore 7, 2) := by decide +kernel
theorem dX12_findCount_84 : decode cX12_findCount 84 = .ok (.iload 5, 2) := by decide +kernel
theorem dX12_findCount_86 : decode cX12_findCount 86 = .ok (.ifCond .eq 17, 3) := by decide +kernel
theorem dX12_findCount_89 : decode cX12_findCount 89 = .ok (.aload_n 0, 1) := by decide +kernel
theorem dX12_findCount_90 : decode cX12_findCount 90 = .ok (.getfield 145, 3) := by decide +kernel
theorem dX12_findCount_93 : decode cX12_findCount 93 = .ok (.iload 6, 2) := by decide +kernel
theorem dX12_findCount_95 : decode cX12_findCount 95 = .ok (.baload, 1) := by decide +kernel
theorem dX12_findCount_96 : decode cX12_findCount 96 = .ok (.ifCond .eq 7, 3) := by decide +kernel
theorem dX12_findCount_99 : decode cX12_findCount 99 = .ok (.iconst 0, 1) := by decide +kernel
theorem dX12_findCount_100 : decode cX12_findCount 100 = .ok (.goto 33, 3) := by decide +kernel
theorem dX12_findCount_103 : decode cX12_findCount 103 = .ok (.iload_n 3, 1) := by decide +kernel
theorem dX12_findCount_104 : decode cX12_findCount 104 = .ok (.ifCond .ne 13, 3) := by decide +kernel
theorem dX12_findCount_107 : decode cX12_findCount 107 = .ok (.aload_n 0, 1) := by decide +kernel
theorem dX12_findCount_108 : decode cX12_findCount 108 = .ok (.iload 6, 2) := by decide +kernel
theorem dX12_findCount_110 : decode cX12_findCount 110 = .ok (.iload_n 2, 1) := by decide +kernel
theorem dX12_findCount_111 : decode cX12_findCount 111 = .ok (.invokevirtual 460, 3) := by decide +kernel
theorem dX12_findCount_114 : decode cX12_findCount 114 = .ok (.goto 19, 3) := by decide +kernel
theorem dX12_findCount_117 : decode cX12_findCount 117 = .ok (.iload_n 3, 1) := by decide +kernel
theorem dX12_findCount_118 : decode cX12_findCount 118 = .ok (.iconst 1, 1) := by decide +kernel
theorem dX12_findCount_119 : decode cX12_findCount 119 = .ok (.if_icmp .ne 13, 3) := by decide +kernel
theorem dX12_findCount_122 : decode cX12_findCount 122 = .ok (.aload_n 0, 1) := by decide +kernel
theorem dX12_findCount_123 : decode cX12_findCount 123 = .ok (.iload 6, 2) := by decide +kernel
theorem dX12_findCount_125 : decode cX12_findCount 125 = .ok (.iload_n 2, 1) := by decide +kernel
theorem dX12_findCount_126 : decode cX12_findCount 126 = .ok (.invokevirtual 453, 3) := by decide +kernel
theorem dX12_findCount_129 : decode cX12_findCount 129 = .ok (.goto 4, 3) := by decide +kernel
theorem dX12_findCount_132 : decode cX12_findCount 132 = .ok (.iconst 1, 1) := by decide +kernel
theorem dX12_findCount_133 : decode cX12_findCount 133 = .ok (.istore 8, 2) := by decide +kernel
theorem dX12_findCount_135 : decode cX12_findCount 135 = .ok (.aload_n 0, 1) := by decide +kernel
theorem dX12_findCount_136 : decode cX12_findCount 136 = .ok (.iload 7, 2) := by decide +kernel
theorem dX12_findCount_138 : decode cX12_findCount 138 = .ok (.aload_n 0, 1) := by decide +kernel
theorem dX12_findCount_139 : decode cX12_findCount 139 = .ok (.getfield 13, 3) := by decide +kernel
theorem dX12_findCount_142 : decode cX12_findCount 142 = .ok (.iload 6, 2) := by decide +kernel
theorem dX12_findCount_144 : decode cX12_findCount 144 = .ok (.iaload, 1) := by decide +kernel
theorem dX12_findCount_145 : decode cX12_findCount 145 = .ok (.iload 8, 2) := by decide +kernel
theorem dX12_findCount_147 : decode cX12_findCount 147 = .ok (.invokevirtual 472, 3) := by decide +kernel
theorem dX12_findCount_150 : decode cX12_findCount 150 = .ok (.iinc 6 1, 3) := by decide +kernel
theorem dX12_findCount_153 : decode cX12_findCount 153 = .ok (.goto (-106), 3) := by decide +kernel
theorem dX12_findCount_156 : decode cX12_findCount 156 = .ok (.iconst 0, 1) := by decide +kernel
theorem dX12_findCount_157 : decode cX12_findCount 157 = .ok (.istore 6, 2) := by decide +kernel
theorem dX12_findCount_159 : decode cX12_findCount 159 = .ok (.iload 6, 2) := by decide +kernel
theorem dX12_findCount_161 : decode cX12_findCount 161 = .ok (.aload_n 0, 1) := by decide +kernel
theorem dX12_findCount_162 : decode cX12_findCount 162 = .ok (.getfield 223, 3) := by decide +kernel
theorem dX12_findCount_165 : decode cX12_findCount 165 = .ok (.if_icmp .ge 41, 3) := by decide +kernel
theorem dX12_findCount_168 : decode cX12_findCount 168 = .ok (.iload_n 3, 1) := by decide +kernel
theorem dX12_findCount_169 : decode cX12_findCount 169 = .ok (.iconst 3, 1) := by decide +kernel
theorem dX12_findCount_170 : decode cX12_findCount 170 = .ok (.if_icmp .ne 36, 3) := by decide +kernel
theorem dX12_findCount_173 : decode cX12_findCount 173 = .ok (.aload_n 0, 1) := by decide +kernel
theorem dX12_findCount_174 : decode cX12_findCount 174 = .ok (.aload_n 0, 1) := by decide +kernel
theorem dX12_findCount_175 : decode cX12_findCount 175 = .ok (.iconst 2, 1) := by decide +kernel
theorem dX12_findCount_176 : decode cX12_findCount 176 = .ok (.iload 6, 2) := by decide +kernel
theorem dX12_findCount_178 : decode cX12_findCount 178 = .ok (.iload_n 1, 1) := by decide +kernel
theorem dX12_findCount_179 : decode cX12_findCount 179 = .ok (.iload_n 2, 1) := by decide +kernel
theorem dX12_findCount_180 : decode cX12_findCount 180 = .ok (.iconst 2, 1) := by decide +kernel
theorem dX12_findCount_181 : decode cX12_findCount 181 = .ok (.invokevirtual 258, 3) := by decide +kernel
theorem dX12_findCount_184 : decode cX12_findCount 184 = .ok (.aload_n 0, 1) := by decide +kernel
theorem dX12_findCount_185 : decode cX12_findCount 185 = .ok (.getfield 13, 3) := by decide +kernel
theorem dX12_findCount_188 : decode cX12_findCount 188 = .ok (.aload_n 0, 1) := by decide +kernel
theorem dX12_findCount_189 : decode cX12_findCount 189 = .ok (.getfield 17, 3) := by decide +kernel
theorem dX12_findCount_192 : decode cX12_findCount 192 = .ok (.iload 6, 2) := by decide +kernel
theorem dX12_findCount_194 : decode cX12_findCount 194 = .ok (.iaload, 1) := by decide +kernel
theorem dX12_findCount_195 : decode cX12_findCount 195 = .ok (.iaload, 1) := by decide +kernel
theorem dX12_findCount_196 : decode cX12_findCount 196 = .ok (.iconst 1, 1) := by decide +kernel
theorem dX12_findCount_197 : decode cX12_findCount 197 = .ok (.invokevirtual 472, 3) := by decide +kernel
theorem dX12_findCount_200 : decode cX12_findCount 200 = .ok (.iinc 6 1, 3) := by decide +kernel
theorem dX12_findCount_203 : decode cX12_findCount 203 = .ok (.goto (-44), 3) := by decide +kernel
theorem dX12_findCount_206 : decode cX12_findCount 206 = .ok (.iconst 0, 1) := by decide +kernel
theorem dX12_findCount_207 : decode cX12_findCount 207 = .ok (.istore 6, 2) := by decide +kernel
theorem dX12_findCount_209 : decode cX12_findCount 209 = .ok (.iload 6, 2) := by decide +kernel
theorem dX12_findCount_211 : decode cX12_findCount 211 = .ok (.bipush 6, 2) := by decide +kernel
theorem dX12_findCount_213 : decode cX12_findCount 213 = .ok (.if_icmp .ge 31, 3) := by decide +kernel
theorem dX12_findCount_216 : decode cX12_findCount 216 = .ok (.aload_n 0, 1) := by decide +kernel
theorem dX12_findCount_217 : decode cX12_findCount 217 = .ok (.getfield 148, 3) := by decide +kernel
theorem dX12_findCount_220 : decode cX12_findCount 220 = .ok (.iload 6, 2) := by decide +kernel
theorem dX12_findCount_222 : decode cX12_findCount 222 = .ok (.laload, 1) := by decide +kernel
theorem dX12_findCount_223 : decode cX12_findCount 223 = .ok (.lconst 0, 1) := by decide +kernel
theorem dX12_findCount_224 : decode cX12_findCount 224 = .ok (.lcmp, 1) := by decide +kernel
theorem dX12_findCount_225 : decode cX12_findCount 225 = .ok (.ifCond .le 13, 3) := by decide +kernel
theorem dX12_findCount_228 : decode cX12_findCount 228 = .ok (.aload_n 0, 1) := by decide +kernel
theorem dX12_findCount_229 : decode cX12_findCount 229 = .ok (.dup, 1) := by decide +kernel
theorem dX12_findCount_230 : decode cX12_findCount 230 = .ok (.getfield 470, 3) := by decide +kernel
theorem dX12_findCount_233 : decode cX12_findCount 233 = .ok (.iconst 1, 1) := by decide +kernel
theorem dX12_findCount_234 : decode cX12_findCount 234 = .ok (.iadd, 1) := by decide +kernel
theorem dX12_findCount_235 : decode cX12_findCount 235 = .ok (.putfield 470, 3) := by decide +kernel
theorem dX12_findCount_238 : decode cX12_findCount 238 = .ok (.iinc 6 1, 3) := by decide +kernel
theorem dX12_findCount_241 : decode cX12_findCount 241 = .ok (.goto (-32), 3) := by decide +kernel
theorem dX12_findCount_244 : decode cX12_findCount 244 = .ok (.aload_n 0, 1) := by decide +kernel
theorem dX12_findCount_245 : decode cX12_findCount 245 = .ok (.aload_n 0, 1) := by decide +kernel
theorem dX12_findCount_246 : decode cX12_findCount 246 = .ok (.getfield 466, 3) := by decide +kernel
theorem dX12_findCount_249 : decode cX12_findCount 249 = .ok (.invokestatic 476, 3) := by decide +kernel
theorem dX12_findCount_252 : decode cX12_findCount 252 = .ok (.i2l, 1) := by decide +kernel
theorem dX12_findCount_253 : decode cX12_findCount 253 = .ok (.putfield 466, 3) := by decide +kernel
theorem dX12_findCount_256 : decode cX12_findCount 256 = .ok (.aload_n 0, 1) := by decide +kernel
theorem dX12_findCount_257 : decode cX12_findCount 257 = .ok (.aload_n 0, 1) := by decide +kernel
theorem dX12_findCount_258 : decode cX12_findCount 258 = .ok (.getfield 468, 3) := by decide +kernel
theorem dX12_findCount_261 : decode cX12_findCount 261 = .ok (.invokestatic 476, 3) := by decide +kernel
theorem dX12_findCount_264 : decode cX12_findCount 264 = .ok (.i2l, 1) := by decide +kernel
theorem dX12_findCount_265 : decode cX12_findCount 265 = .ok (.putfield 468, 3) := by decide +kernel
theorem dX12_findCount_268 : decode cX12_findCount 268 = .ok (.aload_n 0, 1) := by decide +kernel
theorem dX12_findCount_269 : decode cX12_findCount 269 = .ok (.aload_n 0, 1) := by decide +kernel
theorem dX12_findCount_270 : decode cX12_findCount 270 = .ok (.getfield 463, 3) := by decide +kernel
theorem dX12_findCount_273 : decode cX12_findCount 273 = .ok (.invokestatic 476, 3) := by decide +kernel
theorem dX12_findCount_276 : decode cX12_findCount 276 = .ok (.i2l, 1) := by decide +kernel
theorem dX12_findCount_277 : decode cX12_findCount 277 = .ok (.putfield 463, 3) := by decide +kernel
theorem dX12_findCount_280 : decode cX12_findCount 280 = .ok (.return_, 1) := by decide +kernel
theorem dX12_whole_0 : decode cX12_whole 0 = .ok (.lload_n 0, 1) := by decide +kernel
theorem dX12_whole_1 : decode cX12_whole 1 = .ok (.invokestatic 446, 3) := by decide +kernel
theorem dX12_whole_4 : decode cX12_whole 4 = .ok (.ireturn, 1) := by decide +kernel
theorem dX12_counted_0 : decode cX12_counted 0 = .ok (.aload_n 0, 1) := by decide +kernel
theorem dX12_counted_1 : decode cX12_counted 1 = .ok (.iconst 0, 1) := by decide +kernel
theorem dX12_counted_2 : decode cX12_counted 2 = .ok (.putfield 1, 3) := by decide +kernel
theorem dX12_counted_5 : decode cX12_counted 5 = .ok (.aload_n 0, 1) := by decide +kernel
theorem dX12_counted_6 : decode cX12_counted 6 = .ok (.iload_n 1, 1) := by decide +kernel
theorem dX12_counted_7 : decode cX12_counted 7 = .ok (.invokevirtual 243, 3) := by decide +kernel
theorem dX12_counted_10 : decode cX12_counted 10 = .ok (.ifCond .eq 20, 3) := by decide +kernel
theorem dX12_counted_13 : decode cX12_counted 13 = .ok (.aload_n 0, 1) := by decide +kernel
theorem dX12_counted_14 : decode cX12_counted 14 = .ok (.iload_n 2, 1) := by decide +kernel
theorem dX12_counted_15 : decode cX12_counted 15 = .ok (.invokevirtual 270, 3) := by decide +kernel
theorem dX12_counted_18 : decode cX12_counted 18 = .ok (.ifCond .eq 12, 3) := by decide +kernel
theorem dX12_counted_21 : decode cX12_counted 21 = .ok (.iload_n 3, 1) := by decide +kernel
theorem dX12_counted_22 : decode cX12_counted 22 = .ok (.iconst 0, 1) := by decide +kernel
theorem dX12_counted_23 : decode cX12_counted 23 = .ok (.iconst 3, 1) := by decide +kernel
theorem dX12_counted_24 : decode cX12_counted 24 = .ok (.invokestatic 215, 3) := by decide +kernel
theorem dX12_counted_27 : decode cX12_counted 27 = .ok (.ifCond .ne 5, 3) := by decide +kernel
theorem dX12_counted_30 : decode cX12_counted 30 = .ok (.iconst (-1), 1) := by decide +kernel
theorem dX12_counted_31 : decode cX12_counted 31 = .ok (.ireturn, 1) := by decide +kernel
theorem dX12_counted_32 : decode cX12_counted 32 = .ok (.aload_n 0, 1) := by decide +kernel
theorem dX12_counted_33 : decode cX12_counted 33 = .ok (.iload_n 1, 1) := by decide +kernel
theorem dX12_counted_34 : decode cX12_counted 34 = .ok (.iload_n 2, 1) := by decide +kernel
theorem dX12_counted_35 : decode cX12_counted 35 = .ok (.iconst 0, 1) := by decide +kernel
theorem dX12_counted_36 : decode cX12_counted 36 = .ok (.iconst (-1), 1) := by decide +kernel
theorem dX12_counted_37 : decode cX12_counted 37 = .ok (.iconst 0, 1) := by decide +kernel
theorem dX12_counted_38 : decode cX12_counted 38 = .ok (.invokevirtual 479, 3) := by decide +kernel
theorem dX12_counted_41 : decode cX12_counted 41 = .ok (.iload_n 3, 1) := by decide +kernel
theorem dX12_counted_42 : decode cX12_counted 42 = .ok (.ifCond .ne 11, 3) := by decide +kernel
theorem dX12_counted_45 : decode cX12_counted 45 = .ok (.aload_n 0, 1) := by decide +kernel
theorem dX12_counted_46 : decode cX12_counted 46 = .ok (.getfield 466, 3) := by decide +kernel
theorem dX12_counted_49 : decode cX12_counted 49 = .ok (.l2i, 1) := by decide +kernel
theorem dX12_counted_50 : decode cX12_counted 50 = .ok (.goto 33, 3) := by decide +kernel
theorem dX12_counted_53 : decode cX12_counted 53 = .ok (.iload_n 3, 1) := by decide +kernel
theorem dX12_counted_54 : decode cX12_counted 54 = .ok (.iconst 1, 1) := by decide +kernel
theorem dX12_counted_55 : decode cX12_counted 55 = .ok (.if_icmp .ne 11, 3) := by decide +kernel
theorem dX12_counted_58 : decode cX12_counted 58 = .ok (.aload_n 0, 1) := by decide +kernel
theorem dX12_counted_59 : decode cX12_counted 59 = .ok (.getfield 468, 3) := by decide +kernel
theorem dX12_counted_62 : decode cX12_counted 62 = .ok (.l2i, 1) := by decide +kernel
theorem dX12_counted_63 : decode cX12_counted 63 = .ok (.goto 20, 3) := by decide +kernel
theorem dX12_counted_66 : decode cX12_counted 66 = .ok (.iload_n 3, 1) := by decide +kernel
theorem dX12_counted_67 : decode cX12_counted 67 = .ok (.iconst 2, 1) := by decide +kernel
theorem dX12_counted_68 : decode cX12_counted 68 = .ok (.if_icmp .ne 11, 3) := by decide +kernel
theorem dX12_counted_71 : decode cX12_counted 71 = .ok (.aload_n 0, 1) := by decide +kernel
theorem dX12_counted_72 : decode cX12_counted 72 = .ok (.getfield 463, 3) := by decide +kernel
theorem dX12_counted_75 : decode cX12_counted 75 = .ok (.l2i, 1) := by decide +kernel
theorem dX12_counted_76 : decode cX12_counted 76 = .ok (.goto 7, 3) := by decide +kernel
theorem dX12_counted_79 : decode cX12_counted 79 = .ok (.aload_n 0, 1) := by decide +kernel
theorem dX12_counted_80 : decode cX12_counted 80 = .ok (.getfield 470, 3) := by decide +kernel
theorem dX12_counted_83 : decode cX12_counted 83 = .ok (.ireturn, 1) := by decide +kernel
theorem dX12_takesRow_0 : decode cX12_takesRow 0 = .ok (.aload_n 0, 1) := by decide +kernel
theorem dX12_takesRow_1 : decode cX12_takesRow 1 = .ok (.aload_n 0, 1) := by decide +kernel
theorem dX12_takesRow_2 : decode cX12_takesRow 2 = .ok (.getfield 53, 3) := by decide +kernel
theorem dX12_takesRow_5 : decode cX12_takesRow 5 = .ok (.iload_n 1, 1) := by decide +kernel
theorem dX12_takesRow_6 : decode cX12_takesRow 6 = .ok (.iaload, 1) := by decide +kernel
theorem dX12_takesRow_7 : decode cX12_takesRow 7 = .ok (.putfield 483, 3) := by decide +kernel
theorem dX12_takesRow_10 : decode cX12_takesRow 10 = .ok (.iconst 0, 1) := by decide +kernel
theorem dX12_takesRow_11 : decode cX12_takesRow 11 = .ok (.istore_n 2, 1) := by decide +kernel
theorem dX12_takesRow_12 : decode cX12_takesRow 12 = .ok (.iload_n 2, 1) := by decide +kernel
theorem dX12_takesRow_13 : decode cX12_takesRow 13 = .ok (.aload_n 0, 1) := by decide +kernel
theorem dX12_takesRow_14 : decode cX12_takesRow 14 = .ok (.getfield 483, 3) := by decide +kernel
theorem dX12_takesRow_17 : decode cX12_takesRow 17 = .ok (.if_icmp .ge 60, 3) := by decide +kernel
theorem dX12_takesRow_20 : decode cX12_takesRow 20 = .ok (.aload_n 0, 1) := by decide +kernel
theorem dX12_takesRow_21 : decode cX12_takesRow 21 = .ok (.getfield 152, 3) := by decide +kernel
theorem dX12_takesRow_24 : decode cX12_takesRow 24 = .ok (.iload_n 2, 1) := by decide +kernel
theorem dX12_takesRow_25 : decode cX12_takesRow 25 = .ok (.aload_n 0, 1) := by decide +kernel
theorem dX12_takesRow_26 : decode cX12_takesRow 26 = .ok (.getfield 56, 3) := by decide +kernel
theorem dX12_takesRow_29 : decode cX12_takesRow 29 = .ok (.bipush 12, 2) := by decide +kernel
theorem dX12_takesRow_31 : decode cX12_takesRow 31 = .ok (.iload_n 1, 1) := by decide +kernel
theorem dX12_takesRow_32 : decode cX12_takesRow 32 = .ok (.imul, 1) := by decide +kernel
theorem dX12_takesRow_33 : decode cX12_takesRow 33 = .ok (.iload_n 2, 1) := by decide +kernel
theorem dX12_takesRow_34 : decode cX12_takesRow 34 = .ok (.iadd, 1) := by decide +kernel
theorem dX12_takesRow_35 : decode cX12_takesRow 35 = .ok (.iaload, 1) := by decide +kernel
theorem dX12_takesRow_36 : decode cX12_takesRow 36 = .ok (.iastore, 1) := by decide +kernel
theorem dX12_takesRow_37 : decode cX12_takesRow 37 = .ok (.aload_n 0, 1) := by decide +kernel
theorem dX12_takesRow_38 : decode cX12_takesRow 38 = .ok (.getfield 155, 3) := by decide +kernel
theorem dX12_takesRow_41 : decode cX12_takesRow 41 = .ok (.iload_n 2, 1) := by decide +kernel
theorem dX12_takesRow_42 : decode cX12_takesRow 42 = .ok (.aload_n 0, 1) := by decide +kernel
theorem dX12_takesRow_43 : decode cX12_takesRow 43 = .ok (.getfield 59, 3) := by decide +kernel
theorem dX12_takesRow_46 : decode cX12_takesRow 46 = .ok (.bipush 12, 2) := by decide +kernel
theorem dX12_takesRow_48 : decode cX12_takesRow 48 = .ok (.iload_n 1, 1) := by decide +kernel
theorem dX12_takesRow_49 : decode cX12_takesRow 49 = .ok (.imul, 1) := by decide +kernel
theorem dX12_takesRow_50 : decode cX12_takesRow 50 = .ok (.iload_n 2, 1) := by decide +kernel
theorem dX12_takesRow_51 : decode cX12_takesRow 51 = .ok (.iadd, 1) := by decide +kernel
theorem dX12_takesRow_52 : decode cX12_takesRow 52 = .ok (.baload, 1) := by decide +kernel
theorem dX12_takesRow_53 : decode cX12_takesRow 53 = .ok (.bastore, 1) := by decide +kernel
theorem dX12_takesRow_54 : decode cX12_takesRow 54 = .ok (.aload_n 0, 1) := by decide +kernel
theorem dX12_takesRow_55 : decode cX12_takesRow 55 = .ok (.getfield 158, 3) := by decide +kernel
theorem dX12_takesRow_58 : decode cX12_takesRow 58 = .ok (.iload_n 2, 1) := by decide +kernel
theorem dX12_takesRow_59 : decode cX12_takesRow 59 = .ok (.aload_n 0, 1) := by decide +kernel
theorem dX12_takesRow_60 : decode cX12_takesRow 60 = .ok (.getfield 63, 3) := by decide +kernel
theorem dX12_takesRow_63 : decode cX12_takesRow 63 = .ok (.bipush 12, 2) := by decide +kernel
theorem dX12_takesRow_65 : decode cX12_takesRow 65 = .ok (.iload_n 1, 1) := by decide +kernel
theorem dX12_takesRow_66 : decode cX12_takesRow 66 = .ok (.imul, 1) := by decide +kernel
theorem dX12_takesRow_67 : decode cX12_takesRow 67 = .ok (.iload_n 2, 1) := by decide +kernel
theorem dX12_takesRow_68 : decode cX12_takesRow 68 = .ok (.iadd, 1) := by decide +kernel
theorem dX12_takesRow_69 : decode cX12_takesRow 69 = .ok (.iaload, 1) := by decide +kernel
theorem dX12_takesRow_70 : decode cX12_takesRow 70 = .ok (.iastore, 1) := by decide +kernel
theorem dX12_takesRow_71 : decode cX12_takesRow 71 = .ok (.iinc 2 1, 3) := by decide +kernel
theorem dX12_takesRow_74 : decode cX12_takesRow 74 = .ok (.goto (-62), 3) := by decide +kernel
theorem dX12_takesRow_77 : decode cX12_takesRow 77 = .ok (.return_, 1) := by decide +kernel
theorem dX12_laysRow_0 : decode cX12_laysRow 0 = .ok (.aload_n 0, 1) := by decide +kernel
theorem dX12_laysRow_1 : decode cX12_laysRow 1 = .ok (.getfield 53, 3) := by decide +kernel
theorem dX12_laysRow_4 : decode cX12_laysRow 4 = .ok (.iload_n 1, 1) := by decide +kernel
theorem dX12_laysRow_5 : decode cX12_laysRow 5 = .ok (.aload_n 0, 1) := by decide +kernel
theorem dX12_laysRow_6 : decode cX12_laysRow 6 = .ok (.getfield 483, 3) := by decide +kernel
theorem dX12_laysRow_9 : decode cX12_laysRow 9 = .ok (.iastore, 1) := by decide +kernel
theorem dX12_laysRow_10 : decode cX12_laysRow 10 = .ok (.iconst 0, 1) := by decide +kernel
theorem dX12_laysRow_11 : decode cX12_laysRow 11 = .ok (.istore_n 2, 1) := by decide +kernel
theorem dX12_laysRow_12 : decode cX12_laysRow 12 = .ok (.iload_n 2, 1) := by decide +kernel
theorem dX12_laysRow_13 : decode cX12_laysRow 13 = .ok (.aload_n 0, 1) := by decide +kernel
theorem dX12_laysRow_14 : decode cX12_laysRow 14 = .ok (.getfield 483, 3) := by decide +kernel
theorem dX12_laysRow_17 : decode cX12_laysRow 17 = .ok (.if_icmp .ge 60, 3) := by decide +kernel
theorem dX12_laysRow_20 : decode cX12_laysRow 20 = .ok (.aload_n 0, 1) := by decide +kernel
theorem dX12_laysRow_21 : decode cX12_laysRow 21 = .ok (.getfield 56, 3) := by decide +kernel
theorem dX12_laysRow_24 : decode cX12_laysRow 24 = .ok (.bipush 12, 2) := by decide +kernel
theorem dX12_laysRow_26 : decode cX12_laysRow 26 = .ok (.iload_n 1, 1) := by decide +kernel
theorem dX12_laysRow_27 : decode cX12_laysRow 27 = .ok (.imul, 1) := by decide +kernel
theorem dX12_laysRow_28 : decode cX12_laysRow 28 = .ok (.iload_n 2, 1) := by decide +kernel
theorem dX12_laysRow_29 : decode cX12_laysRow 29 = .ok (.iadd, 1) := by decide +kernel
theorem dX12_laysRow_30 : decode cX12_laysRow 30 = .ok (.aload_n 0, 1) := by decide +kernel
theorem dX12_laysRow_31 : decode cX12_laysRow 31 = .ok (.getfield 152, 3) := by decide +kernel
theorem dX12_laysRow_34 : decode cX12_laysRow 34 = .ok (.iload_n 2, 1) := by decide +kernel
theorem dX12_laysRow_35 : decode cX12_laysRow 35 = .ok (.iaload, 1) := by decide +kernel
theorem dX12_laysRow_36 : decode cX12_laysRow 36 = .ok (.iastore, 1) := by decide +kernel
theorem dX12_laysRow_37 : decode cX12_laysRow 37 = .ok (.aload_n 0, 1) := by decide +kernel
theorem dX12_laysRow_38 : decode cX12_laysRow 38 = .ok (.getfield 59, 3) := by decide +kernel
theorem dX12_laysRow_41 : decode cX12_laysRow 41 = .ok (.bipush 12, 2) := by decide +kernel
theorem dX12_laysRow_43 : decode cX12_laysRow 43 = .ok (.iload_n 1, 1) := by decide +kernel
theorem dX12_laysRow_44 : decode cX12_laysRow 44 = .ok (.imul, 1) := by decide +kernel
theorem dX12_laysRow_45 : decode cX12_laysRow 45 = .ok (.iload_n 2, 1) := by decide +kernel
theorem dX12_laysRow_46 : decode cX12_laysRow 46 = .ok (.iadd, 1) := by decide +kernel
theorem dX12_laysRow_47 : decode cX12_laysRow 47 = .ok (.aload_n 0, 1) := by decide +kernel
theorem dX12_laysRow_48 : decode cX12_laysRow 48 = .ok (.getfield 155, 3) := by decide +kernel
theorem dX12_laysRow_51 : decode cX12_laysRow 51 = .ok (.iload_n 2, 1) := by decide +kernel
theorem dX12_laysRow_52 : decode cX12_laysRow 52 = .ok (.baload, 1) := by decide +kernel
theorem dX12_laysRow_53 : decode cX12_laysRow 53 = .ok (.bastore, 1) := by decide +kernel
theorem dX12_laysRow_54 : decode cX12_laysRow 54 = .ok (.aload_n 0, 1) := by decide +kernel
theorem dX12_laysRow_55 : decode cX12_laysRow 55 = .ok (.getfield 63, 3) := by decide +kernel
theorem dX12_laysRow_58 : decode cX12_laysRow 58 = .ok (.bipush 12, 2) := by decide +kernel
theorem dX12_laysRow_60 : decode cX12_laysRow 60 = .ok (.iload_n 1, 1) := by decide +kernel
theorem dX12_laysRow_61 : decode cX12_laysRow 61 = .ok (.imul, 1) := by decide +kernel
theorem dX12_laysRow_62 : decode cX12_laysRow 62 = .ok (.iload_n 2, 1) := by decide +kernel
theorem dX12_laysRow_63 : decode cX12_laysRow 63 = .ok (.iadd, 1) := by decide +kernel
theorem dX12_laysRow_64 : decode cX12_laysRow 64 = .ok (.aload_n 0, 1) := by decide +kernel
theorem dX12_laysRow_65 : decode cX12_laysRow 65 = .ok (.getfield 158, 3) := by decide +kernel
theorem dX12_laysRow_68 : decode cX12_laysRow 68 = .ok (.iload_n 2, 1) := by decide +kernel
theorem dX12_laysRow_69 : decode cX12_laysRow 69 = .ok (.iaload, 1) := by decide +kernel
theorem dX12_laysRow_70 : decode cX12_laysRow 70 = .ok (.iastore, 1) := by decide +kernel
theorem dX12_laysRow_71 : decode cX12_laysRow 71 = .ok (.iinc 2 1, 3) := by decide +kernel
theorem dX12_laysRow_74 : decode cX12_laysRow 74 = .ok (.goto (-62), 3) := by decide +kernel
theorem dX12_laysRow_77 : decode cX12_laysRow 77 = .ok (.return_, 1) := by decide +kernel
theorem dX12_inRow_0 : decode cX12_inRow 0 = .ok (.iconst 0, 1) := by decide +kernel
theorem dX12_inRow_1 : decode cX12_inRow 1 = .ok (.istore_n 2, 1) := by decide +kernel
theorem dX12_inRow_2 : decode cX12_inRow 2 = .ok (.iload_n 2, 1) := by decide +kernel
theorem dX12_inRow_3 : decode cX12_inRow 3 = .ok (.aload_n 0, 1) := by decide +kernel
theorem dX12_inRow_4 : decode cX12_inRow 4 = .ok (.getfield 483, 3) := by decide +kernel
theorem dX12_inRow_7 : decode cX12_inRow 7 = .ok (.if_icmp .ge 32, 3) := by decide +kernel
theorem dX12_inRow_10 : decode cX12_inRow 10 = .ok (.aload_n 0, 1) := by decide +kernel
theorem dX12_inRow_11 : decode cX12_inRow 11 = .ok (.getfield 152, 3) := by decide +kernel
theorem dX12_inRow_14 : decode cX12_inRow 14 = .ok (.iload_n 2, 1) := by decide +kernel
theorem dX12_inRow_15 : decode cX12_inRow 15 = .ok (.iaload, 1) := by decide +kernel
theorem dX12_inRow_16 : decode cX12_inRow 16 = .ok (.iload_n 1, 1) := by decide +kernel
theorem dX12_inRow_17 : decode cX12_inRow 17 = .ok (.if_icmp .eq 14, 3) := by decide +kernel
theorem dX12_inRow_20 : decode cX12_inRow 20 = .ok (.aload_n 0, 1) := by decide +kernel
theorem dX12_inRow_21 : decode cX12_inRow 21 = .ok (.getfield 152, 3) := by decide +kernel
theorem dX12_inRow_24 : decode cX12_inRow 24 = .ok (.iload_n 2, 1) := by decide +kernel
theorem dX12_inRow_25 : decode cX12_inRow 25 = .ok (.iaload, 1) := by decide +kernel
theorem dX12_inRow_26 : decode cX12_inRow 26 = .ok (.iload_n 1, 1) := by decide +kernel
theorem dX12_inRow_27 : decode cX12_inRow 27 = .ok (.ineg, 1) := by decide +kernel
theorem dX12_inRow_28 : decode cX12_inRow 28 = .ok (.if_icmp .ne 5, 3) := by decide +kernel
theorem dX12_inRow_31 : decode cX12_inRow 31 = .ok (.iload_n 2, 1) := by decide +kernel
theorem dX12_inRow_32 : decode cX12_inRow 32 = .ok (.ireturn, 1) := by decide +kernel
theorem dX12_inRow_33 : decode cX12_inRow 33 = .ok (.iinc 2 1, 3) := by decide +kernel
theorem dX12_inRow_36 : decode cX12_inRow 36 = .ok (.goto (-34), 3) := by decide +kernel
theorem dX12_inRow_39 : decode cX12_inRow 39 = .ok (.iconst (-1), 1) := by decide +kernel
theorem dX12_inRow_40 : decode cX12_inRow 40 = .ok (.ireturn, 1) := by decide +kernel
theorem dX12_does_0 : decode cX12_does 0 = .ok (.bipush 6, 2) := by decide +kernel
theorem dX12_does_2 : decode cX12_does 2 = .ok (.iload_n 1, 1) := by decide +kernel
theorem dX12_does_3 : decode cX12_does 3 = .ok (.imul, 1) := by decide +kernel
theorem dX12_does_4 : decode cX12_does 4 = .ok (.istore_n 2, 1) := by decide +kernel
theorem dX12_does_5 : decode cX12_does 5 = .ok (.iload_n 2, 1) := by decide +kernel
theorem dX12_does_6 : decode cX12_does 6 = .ok (.bipush 6, 2) := by decide +kernel
theorem dX12_does_8 : decode cX12_does 8 = .ok (.iload_n 1, 1) := by decide +kernel
theorem dX12_does_9 : decode cX12_does 9 = .ok (.imul, 1) := by decide +kernel
theorem dX12_does_10 : decode cX12_does 10 = .ok (.aload_n 0, 1) := by decide +kernel
theorem dX12_does_11 : decode cX12_does 11 = .ok (.getfield 32, 3) := by decide +kernel
theorem dX12_does_14 : decode cX12_does 14 = .ok (.iload_n 1, 1) := by decide +kernel
theorem dX12_does_15 : decode cX12_does 15 = .ok (.iaload, 1) := by decide +kernel
theorem dX12_does_16 : decode cX12_does 16 = .ok (.iadd, 1) := by decide +kernel
theorem dX12_does_17 : decode cX12_does 17 = .ok (.if_icmp .ge 220, 3) := by decide +kernel
theorem dX12_does_20 : decode cX12_does 20 = .ok (.aload_n 0, 1) := by decide +kernel
theorem dX12_does_21 : decode cX12_does 21 = .ok (.aload_n 0, 1) := by decide +kernel
theorem dX12_does_22 : decode cX12_does 22 = .ok (.getfield 38, 3) := by decide +kernel
theorem dX12_does_25 : decode cX12_does 25 = .ok (.iload_n 2, 1) := by decide +kernel
theorem dX12_does_26 : decode cX12_does 26 = .ok (.iaload, 1) := by decide +kernel
theorem dX12_does_27 : decode cX12_does 27 = .ok (.invokevirtual 486, 3) := by decide +kernel
theorem dX12_does_30 : decode cX12_does 30 = .ok (.istore_n 3, 1) := by decide +kernel
theorem dX12_does_31 : decode cX12_does 31 = .ok (.aload_n 0, 1) := by decide +kernel
theorem dX12_does_32 : decode cX12_does 32 = .ok (.getfield 35, 3) := by decide +kernel
theorem dX12_does_35 : decode cX12_does 35 = .ok (.iload_n 2, 1) := by decide +kernel
theorem dX12_does_36 : decode cX12_does 36 = .ok (.iaload, 1) := by decide +kernel
theorem dX12_does_37 : decode cX12_does 37 = .ok (.ifCond .ne 87, 3) := by decide +kernel
theorem dX12_does_40 : decode cX12_does 40 = .ok (.iload_n 3, 1) := by decide +kernel
theorem dX12_does_41 : decode cX12_does 41 = .ok (.iconst (-1), 1) := by decide +kernel
theorem dX12_does_42 : decode cX12_does 42 = .ok (.if_icmp .eq 82, 3) := by decide +kernel
theorem dX12_does_45 : decode cX12_does 45 = .ok (.aload_n 0, 1) := by decide +kernel
theorem dX12_does_46 : decode cX12_does 46 = .ok (.dup, 1) := by decide +kernel
theorem dX12_does_47 : decode cX12_does 47 = .ok (.getfield 483, 3) := by decide +kernel
theorem dX12_does_50 : decode cX12_does 50 = .ok (.iconst 1, 1) := by decide +kernel
theorem dX12_does_51 : decode cX12_does 51 = .ok (.isub, 1) := by decide +kernel
theorem dX12_does_52 : decode cX12_does 52 = .ok (.putfield 483, 3) := by decide +kernel
theorem dX12_does_55 : decode cX12_does 55 = .ok (.iload_n 3, 1) := by decide +kernel
theorem dX12_does_56 : decode cX12_does 56 = .ok (.istore 4, 2) := by decide +kernel
theorem dX12_does_58 : decode cX12_does 58 = .ok (.iload 4, 2) := by decide +kernel
theorem dX12_does_60 : decode cX12_does 60 = .ok (.aload_n 0, 1) := by decide +kernel
theorem dX12_does_61 : decode cX12_does 61 = .ok (.getfield 483, 3) := by decide +kernel
theorem dX12_does_64 : decode cX12_does 64 = .ok (.if_icmp .ge 57, 3) := by decide +kernel
theorem dX12_does_67 : decode cX12_does 67 = .ok (.aload_n 0, 1) := by decide +kernel
theorem dX12_does_68 : decode cX12_does 68 = .ok (.getfield 152, 3) := by decide +kernel
theorem dX12_does_71 : decode cX12_does 71 = .ok (.iload 4, 2) := by decide +kernel
theorem dX12_does_73 : decode cX12_does 73 = .ok (.aload_n 0, 1) := by decide +kernel
theorem dX12_does_74 : decode cX12_does 74 = .ok (.getfield 152, 3) := by decide +kernel
theorem dX12_does_77 : decode cX12_does 77 = .ok (.iload 4, 2) := by decide +kernel
theorem dX12_does_79 : decode cX12_does 79 = .ok (.iconst 1, 1) := by decide +kernel
theorem dX12_does_80 : decode cX12_does 80 = .ok (.iadd, 1) := by decide +kernel
theorem dX12_does_81 : decode cX12_does 81 = .ok (.iaload, 1) := by decide +kernel
theorem dX12_does_82 : decode cX12_does 82 = .ok (.iastore, 1) := by decide +kernel
theorem dX12_does_83 : decode cX12_does 83 = .ok (.aload_n 0, 1) := by decide +kernel
theorem dX12_does_84 : decode cX12_does 84 = .ok (.getfield 155, 3) := by decide +kernel
theorem dX12_does_87 : decode cX12_does 87 = .ok (.iload 4, 2) := by decide +kernel
theorem dX12_does_89 : decode cX12_does 89 = .ok (.aload_n 0, 1) := by decide +kernel
theorem dX12_does_90 : decode cX12_does 90 = .ok (.getfield 155, 3) := by decide +kernel
theorem dX12_does_93 : decode cX12_does 93 = .ok (.iload 4, 2) := by decide +kernel
theorem dX12_does_95 : decode cX12_does 95 = .ok (.iconst 1, 1) := by decide +kernel
theorem dX12_does_96 : decode cX12_does 96 = .ok (.iadd, 1) := by decide +kernel
theorem dX12_does_97 : decode cX12_does 97 = .ok (.baload, 1) := by decide +kernel
theorem dX12_does_98 : decode cX12_does 98 = .ok (.bastore, 1) := by decide +kernel
theorem dX12_does_99 : decode cX12_does 99 = .ok (.aload_n 0, 1) := by decide +kernel
theorem dX12_does_100 : decode cX12_does 100 = .ok (.getfield 158, 3) := by decide +kernel
theorem dX12_does_103 : decode cX12_does 103 = .ok (.iload 4, 2) := by decide +kernel
theorem dX12_does_105 : decode cX12_does 105 = .ok (.aload_n 0, 1) := by decide +kernel
theorem dX12_does_106 : decode cX12_does 106 = .ok (.getfield 158, 3) := by decide +kernel
theorem dX12_does_109 : decode cX12_does 109 = .ok (.iload 4, 2) := by decide +kernel
theorem dX12_does_111 : decode cX12_does 111 = .ok (.iconst 1, 1) := by decide +kernel
theorem dX12_does_112 : decode cX12_does 112 = .ok (.iadd, 1) := by decide +kernel
theorem dX12_does_113 : decode cX12_does 113 = .ok (.iaload, 1) := by decide +kernel
theorem dX12_does_114 : decode cX12_does 114 = .ok (.iastore, 1) := by decide +kernel
theorem dX12_does_115 : decode cX12_does 115 = .ok (.iinc 4 1, 3) := by decide +kernel
theorem dX12_does_118 : decode cX12_does 118 = .ok (.goto (-60), 3) := by decide +kernel
theorem dX12_does_121 : decode cX12_does 121 = .ok (.goto 110, 3) := by decide +kernel
theorem dX12_does_124 : decode cX12_does 124 = .ok (.aload_n 0, 1) := by decide +kernel
theorem dX12_does_125 : decode cX12_does 125 = .ok (.getfield 35, 3) := by decide +kernel
theorem dX12_does_128 : decode cX12_does 128 = .ok (.iload_n 2, 1) := by decide +kernel
theorem dX12_does_129 : decode cX12_does 129 = .ok (.iaload, 1) := by decide +kernel
theorem dX12_does_130 : decode cX12_does 130 = .ok (.iconst 1, 1) := by decide +kernel
theorem dX12_does_131 : decode cX12_does 131 = .ok (.if_icmp .ne 65, 3) := by decide +kernel
theorem dX12_does_134 : decode cX12_does 134 = .ok (.iload_n 3, 1) := by decide +kernel
theorem dX12_does_135 : decode cX12_does 135 = .ok (.iconst (-1), 1) := by decide +kernel
theorem dX12_does_136 : decode cX12_does 136 = .ok (.if_icmp .ne 60, 3) := by decide +kernel
theorem dX12_does_139 : decode cX12_does 139 = .ok (.aload_n 0, 1) := by decide +kernel
theorem dX12_does_140 : decode cX12_does 140 = .ok (.getfield 483, 3) := by decide +kernel
theorem dX12_does_143 : decode cX12_does 143 = .ok (.bipush 12, 2) := by decide +kernel
theorem dX12_does_145 : decode cX12_does 145 = .ok (.if_icmp .ge 51, 3) := by decide +kernel
theorem dX12_does_148 : decode cX12_does 148 = .ok (.aload_n 0, 1) := by decide +kernel
theorem dX12_does_149 : decode cX12_does 149 = .ok (.getfield 152, 3) := by decide +kernel
theorem dX12_does_152 : decode cX12_does 152 = .ok (.aload_n 0, 1) := by decide +kernel
theorem dX12_does_153 : decode cX12_does 153 = .ok (.getfield 483, 3) := by decide +kernel
theorem dX12_does_156 : decode cX12_does 156 = .ok (.aload_n 0, 1) := by decide +kernel
theorem dX12_does_157 : decode cX12_does 157 = .ok (.getfield 38, 3) := by decide +kernel
theorem dX12_does_160 : decode cX12_does 160 = .ok (.iload_n 2, 1) := by decide +kernel
theorem dX12_does_161 : decode cX12_does 161 = .ok (.iaload, 1) := by decide +kernel
theorem dX12_does_162 : decode cX12_does 162 = .ok (.iastore, 1) := by decide +kernel
theorem dX12_does_163 : decode cX12_does 163 = .ok (.aload_n 0, 1) := by decide +kernel
theorem dX12_does_164 : decode cX12_does 164 = .ok (.getfield 155, 3) := by decide +kernel
theorem dX12_does_167 : decode cX12_does 167 = .ok (.aload_n 0, 1) := by decide +kernel
theorem dX12_does_168 : decode cX12_does 168 = .ok (.getfield 483, 3) := by decide +kernel
theorem dX12_does_171 : decode cX12_does 171 = .ok (.iconst 0, 1) := by decide +kernel
theorem dX12_does_172 : decode cX12_does 172 = .ok (.bastore, 1) := by decide +kernel
theorem dX12_does_173 : decode cX12_does 173 = .ok (.aload_n 0, 1) := by decide +kernel
theorem dX12_does_174 : decode cX12_does 174 = .ok (.getfield 158, 3) := by decide +kernel
theorem dX12_does_177 : decode cX12_does 177 = .ok (.aload_n 0, 1) := by decide +kernel
theorem dX12_does_178 : decode cX12_does 178 = .ok (.getfield 483, 3) := by decide +kernel
theorem dX12_does_181 : decode cX12_does 181 = .ok (.iload_n 1, 1) := by decide +kernel
theorem dX12_does_182 : decode cX12_does 182 = .ok (.iastore, 1) := by decide +kernel
theorem dX12_does_183 : decode cX12_does 183 = .ok (.aload_n 0, 1) := by decide +kernel
theorem dX12_does_184 : decode cX12_does 184 = .ok (.dup, 1) := by decide +kernel
theorem dX12_does_185 : decode cX12_does 185 = .ok (.getfield 483, 3) := by decide +kernel
theorem dX12_does_188 : decode cX12_does 188 = .ok (.iconst 1, 1) := by decide +kernel
theorem dX12_does_189 : decode cX12_does 189 = .ok (.iadd, 1) := by decide +kernel
theorem dX12_does_190 : decode cX12_does 190 = .ok (.putfield 483, 3) := by decide +kernel
theorem dX12_does_193 : decode cX12_does 193 = .ok (.goto 38, 3) := by decide +kernel
theorem dX12_does_196 : decode cX12_does 196 = .ok (.aload_n 0, 1) := by decide +kernel
theorem dX12_does_197 : decode cX12_does 197 = .ok (.getfield 35, 3) := by decide +kernel
theorem dX12_does_200 : decode cX12_does 200 = .ok (.iload_n 2, 1) := by decide +kernel
theorem dX12_does_201 : decode cX12_does 201 = .ok (.iaload, 1) := by decide +kernel
theorem dX12_does_202 : decode cX12_does 202 = .ok (.iconst 2, 1) := by decide +kernel
theorem dX12_does_203 : decode cX12_does 203 = .ok (.if_icmp .ne 28, 3) := by decide +kernel
theorem dX12_does_206 : decode cX12_does 206 = .ok (.iload_n 3, 1) := by decide +kernel
theorem dX12_does_207 : decode cX12_does 207 = .ok (.iconst (-1), 1) := by decide +kernel
theorem dX12_does_208 : decode cX12_does 208 = .ok (.if_icmp .eq 23, 3) := by decide +kernel
theorem dX12_does_211 : decode cX12_does 211 = .ok (.aload_n 0, 1) := by decide +kernel
theorem dX12_does_212 : decode cX12_does 212 = .ok (.getfield 152, 3) := by decide +kernel
theorem dX12_does_215 : decode cX12_does 215 = .ok (.iload_n 3, 1) := by decide +kernel
theorem dX12_does_216 : decode cX12_does 216 = .ok (.aload_n 0, 1) := by decide +kernel
theorem dX12_does_217 : decode cX12_does 217 = .ok (.getfield 152, 3) := by decide +kernel
theorem dX12_does_220 : decode cX12_does 220 = .ok (.iload_n 3, 1) := by decide +kernel
theorem dX12_does_221 : decode cX12_does 221 = .ok (.iaload, 1) := by decide +kernel
theorem dX12_does_222 : decode cX12_does 222 = .ok (.ineg, 1) := by decide +kernel
theorem dX12_does_223 : decode cX12_does 223 = .ok (.iastore, 1) := by decide +kernel
theorem dX12_does_224 : decode cX12_does 224 = .ok (.aload_n 0, 1) := by decide +kernel
theorem dX12_does_225 : decode cX12_does 225 = .ok (.getfield 158, 3) := by decide +kernel
theorem dX12_does_228 : decode cX12_does 228 = .ok (.iload_n 3, 1) := by decide +kernel
theorem dX12_does_229 : decode cX12_does 229 = .ok (.iload_n 1, 1) := by decide +kernel
theorem dX12_does_230 : decode cX12_does 230 = .ok (.iastore, 1) := by decide +kernel
theorem dX12_does_231 : decode cX12_does 231 = .ok (.iinc 2 1, 3) := by decide +kernel
theorem dX12_does_234 : decode cX12_does 234 = .ok (.goto (-229), 3) := by decide +kernel
theorem dX12_does_237 : decode cX12_does 237 = .ok (.return_, 1) := by decide +kernel
theorem dX12_size_0 : decode cX12_size 0 = .ok (.iload_n 0, 1) := by decide +kernel
theorem dX12_size_1 : decode cX12_size 1 = .ok (.ifCond .ge 8, 3) := by decide +kernel
theorem dX12_size_4 : decode cX12_size 4 = .ok (.iload_n 0, 1) := by decide +kernel
theorem dX12_size_5 : decode cX12_size 5 = .ok (.ineg, 1) := by decide +kernel
theorem dX12_size_6 : decode cX12_size 6 = .ok (.goto 4, 3) := by decide +kernel
theorem dX12_size_9 : decode cX12_size 9 = .ok (.iload_n 0, 1) := by decide +kernel
theorem dX12_size_10 : decode cX12_size 10 = .ok (.ireturn, 1) := by decide +kernel
theorem dX12_against_0 : decode cX12_against 0 = .ok (.iconst 0, 1) := by decide +kernel
theorem dX12_against_1 : decode cX12_against 1 = .ok (.istore_n 2, 1) := by decide +kernel
theorem dX12_against_2 : decode cX12_against 2 = .ok (.iload_n 2, 1) := by decide +kernel
theorem dX12_against_3 : decode cX12_against 3 = .ok (.aload_n 0, 1) := by decide +kernel
theorem dX12_against_4 : decode cX12_against 4 = .ok (.getfield 483, 3) := by decide +kernel
theorem dX12_against_7 : decode cX12_against 7 = .ok (.if_icmp .ge 53, 3) := by decide +kernel
theorem dX12_against_10 : decode cX12_against 10 = .ok (.aload_n 1, 1) := by decide +kernel
theorem dX12_against_11 : decode cX12_against 11 = .ok (.aload_n 0, 1) := by decide +kernel
theorem dX12_against_12 : decode cX12_against 12 = .ok (.getfield 152, 3) := by decide +kernel
theorem dX12_against_15 : decode cX12_against 15 = .ok (.iload_n 2, 1) := by decide +kernel
theorem dX12_against_16 : decode cX12_against 16 = .ok (.iaload, 1) := by decide +kernel
theorem dX12_against_17 : decode cX12_against 17 = .ok (.invokestatic 489, 3) := by decide +kernel
theorem dX12_against_20 : decode cX12_against 20 = .ok (.iaload, 1) := by decide +kernel
theorem dX12_against_21 : decode cX12_against 21 = .ok (.istore_n 3, 1) := by decide +kernel
theorem dX12_against_22 : decode cX12_against 22 = .ok (.iload_n 3, 1) := by decide +kernel
theorem dX12_against_23 : decode cX12_against 23 = .ok (.ifCond .eq 31, 3) := by decide +kernel
theorem dX12_against_26 : decode cX12_against 26 = .ok (.iload_n 3, 1) := by decide +kernel
theorem dX12_against_27 : decode cX12_against 27 = .ok (.ifCond .le 7, 3) := by decide +kernel
theorem dX12_against_30 : decode cX12_against 30 = .ok (.iconst 1, 1) := by decide +kernel
theorem dX12_against_31 : decode cX12_against 31 = .ok (.goto 4, 3) := by decide +kernel
theorem dX12_against_34 : decode cX12_against 34 = .ok (.iconst 0, 1) := by decide +kernel
theorem dX12_against_35 : decode cX12_against 35 = .ok (.aload_n 0, 1) := by decide +kernel
theorem dX12_against_36 : decode cX12_against 36 = .ok (.getfield 152, 3) := by decide +kernel
theorem dX12_against_39 : decode cX12_against 39 = .ok (.iload_n 2, 1) := by decide +kernel
theorem dX12_against_40 : decode cX12_against 40 = .ok (.iaload, 1) := by decide +kernel
theorem dX12_against_41 : decode cX12_against 41 = .ok (.ifCond .le 7, 3) := by decide +kernel
theorem dX12_against_44 : decode cX12_against 44 = .ok (.iconst 1, 1) := by decide +kernel
theorem dX12_against_45 : decode cX12_against 45 = .ok (.goto 4, 3) := by decide +kernel
theorem dX12_against_48 : decode cX12_against 48 = .ok (.iconst 0, 1) := by decide +kernel
theorem dX12_against_49 : decode cX12_against 49 = .ok (.if_icmp .eq 5, 3) := by decide +kernel
theorem dX12_against_52 : decode cX12_against 52 = .ok (.iconst 1, 1) := by decide +kernel
theorem dX12_against_53 : decode cX12_against 53 = .ok (.ireturn, 1) := by decide +kernel
theorem dX12_against_54 : decode cX12_against 54 = .ok (.iinc 2 1, 3) := by decide +kernel
theorem dX12_against_57 : decode cX12_against 57 = .ok (.goto (-55), 3) := by decide +kernel
theorem dX12_against_60 : decode cX12_against 60 = .ok (.iconst 0, 1) := by decide +kernel
theorem dX12_against_61 : decode cX12_against 61 = .ok (.ireturn, 1) := by decide +kernel
theorem dX12_againstOf_0 : decode cX12_againstOf 0 = .ok (.iload_n 1, 1) := by decide +kernel
theorem dX12_againstOf_1 : decode cX12_againstOf 1 = .ok (.sipush 200, 3) := by decide +kernel
theorem dX12_againstOf_4 : decode cX12_againstOf 4 = .ok (.if_icmp .lt 5, 3) := by decide +kernel
theorem dX12_againstOf_7 : decode cX12_againstOf 7 = .ok (.iconst 0, 1) := by decide +kernel
theorem dX12_againstOf_8 : decode cX12_againstOf 8 = .ok (.ireturn, 1) := by decide +kernel
theorem dX12_againstOf_9 : decode cX12_againstOf 9 = .ok (.iload_n 1, 1) := by decide +kernel
theorem dX12_againstOf_10 : decode cX12_againstOf 10 = .ok (.bipush 100, 2) := by decide +kernel
theorem dX12_againstOf_12 : decode cX12_againstOf 12 = .ok (.if_icmp .ge 11, 3) := by decide +kernel
theorem dX12_againstOf_15 : decode cX12_againstOf 15 = .ok (.aload_n 0, 1) := by decide +kernel
theorem dX12_againstOf_16 : decode cX12_againstOf 16 = .ok (.iload_n 1, 1) := by decide +kernel
theorem dX12_againstOf_17 : decode cX12_againstOf 17 = .ok (.invokevirtual 492, 3) := by decide +kernel
theorem dX12_againstOf_20 : decode cX12_againstOf 20 = .ok (.goto 24, 3) := by decide +kernel
theorem dX12_againstOf_23 : decode cX12_againstOf 23 = .ok (.aload_n 0, 1) := by decide +kernel
theorem dX12_againstOf_24 : decode cX12_againstOf 24 = .ok (.aload_n 0, 1) := by decide +kernel
theorem dX12_againstOf_25 : decode cX12_againstOf 25 = .ok (.getfield 29, 3) := by decide +kernel
theorem dX12_againstOf_28 : decode cX12_againstOf 28 = .ok (.iload_n 1, 1) := by decide +kernel
theorem dX12_againstOf_29 : decode cX12_againstOf 29 = .ok (.bipush 100, 2) := by decide +kernel
theorem dX12_againstOf_31 : decode cX12_againstOf 31 = .ok (.isub, 1) := by decide +kernel
theorem dX12_againstOf_32 : decode cX12_againstOf 32 = .ok (.iaload, 1) := by decide +kernel
theorem dX12_againstOf_33 : decode cX12_againstOf 33 = .ok (.invokevirtual 492, 3) := by decide +kernel
theorem dX12_againstOf_36 : decode cX12_againstOf 36 = .ok (.aload_n 0, 1) := by decide +kernel
theorem dX12_againstOf_37 : decode cX12_againstOf 37 = .ok (.iload_n 1, 1) := by decide +kernel
theorem dX12_againstOf_38 : decode cX12_againstOf 38 = .ok (.bipush 100, 2) := by decide +kernel
theorem dX12_againstOf_40 : decode cX12_againstOf 40 = .ok (.isub, 1) := by decide +kernel
theorem dX12_againstOf_41 : decode cX12_againstOf 41 = .ok (.invokevirtual 495, 3) := by decide +kernel
theorem dX12_againstOf_44 : decode cX12_againstOf 44 = .ok (.aload_n 0, 1) := by decide +kernel
theorem dX12_againstOf_45 : decode cX12_againstOf 45 = .ok (.aload_n 2, 1) := by decide +kernel
theorem dX12_againstOf_46 : decode cX12_againstOf 46 = .ok (.invokevirtual 498, 3) := by decide +kernel
theorem dX12_againstOf_49 : decode cX12_againstOf 49 = .ok (.ireturn, 1) := by decide +kernel
theorem dX12_passes_0 : decode cX12_passes 0 = .ok (.aload_n 0, 1) := by decide +kernel
theorem dX12_passes_1 : decode cX12_passes 1 = .ok (.iload_n 1, 1) := by decide +kernel
theorem dX12_passes_2 : decode cX12_passes 2 = .ok (.bipush 100, 2) := by decide +kernel
theorem dX12_passes_4 : decode cX12_passes 4 = .ok (.if_icmp .ge 7, 3) := by decide +kernel
theorem dX12_passes_7 : decode cX12_passes 7 = .ok (.iconst 0, 1) := by decide +kernel
theorem dX12_passes_8 : decode cX12_passes 8 = .ok (.goto 15, 3) := by decide +kernel
theorem dX12_passes_11 : decode cX12_passes 11 = .ok (.iload_n 1, 1) := by decide +kernel
theorem dX12_passes_12 : decode cX12_passes 12 = .ok (.sipush 200, 3) := by decide +kernel
theorem dX12_passes_15 : decode cX12_passes 15 = .ok (.if_icmp .ge 7, 3) := by decide +kernel
theorem dX12_passes_18 : decode cX12_passes 18 = .ok (.iconst 1, 1) := by decide +kernel
theorem dX12_passes_19 : decode cX12_passes 19 = .ok (.goto 4, 3) := by decide +kernel
theorem dX12_passes_22 : decode cX12_passes 22 = .ok (.iconst 2, 1) := by decide +kernel
theorem dX12_passes_23 : decode cX12_passes 23 = .ok (.invokevirtual 437, 3) := by decide +kernel
theorem dX12_passes_26 : decode cX12_passes 26 = .ok (.istore 4, 2) := by decide +kernel
theorem dX12_passes_28 : decode cX12_passes 28 = .ok (.iload 4, 2) := by decide +kernel
theorem dX12_passes_30 : decode cX12_passes 30 = .ok (.iconst (-1), 1) := by decide +kernel
theorem dX12_passes_31 : decode cX12_passes 31 = .ok (.if_icmp .ne 21, 3) := by decide +kernel
theorem dX12_passes_34 : decode cX12_passes 34 = .ok (.aload_n 0, 1) := by decide +kernel
theorem dX12_passes_35 : decode cX12_passes 35 = .ok (.getfield 466, 3) := by decide +kernel
theorem dX12_passes_38 : decode cX12_passes 38 = .ok (.aload_n 0, 1) := by decide +kernel
theorem dX12_passes_39 : decode cX12_passes 39 = .ok (.getfield 468, 3) := by decide +kernel
theorem dX12_passes_42 : decode cX12_passes 42 = .ok (.lcmp, 1) := by decide +kernel
theorem dX12_passes_43 : decode cX12_passes 43 = .ok (.ifCond .le 7, 3) := by decide +kernel
theorem dX12_passes_46 : decode cX12_passes 46 = .ok (.iconst 1, 1) := by decide +kernel
theorem dX12_passes_47 : decode cX12_passes 47 = .ok (.goto 4, 3) := by decide +kernel
theorem dX12_passes_50 : decode cX12_passes 50 = .ok (.iconst 0, 1) := by decide +kernel
theorem dX12_passes_51 : decode cX12_passes 51 = .ok (.ireturn, 1) := by decide +kernel
theorem dX12_passes_52 : decode cX12_passes 52 = .ok (.aload_n 0, 1) := by decide +kernel
theorem dX12_passes_53 : decode cX12_passes 53 = .ok (.getfield 139, 3) := by decide +kernel
theorem dX12_passes_56 : decode cX12_passes 56 = .ok (.iconst 0, 1) := by decide +kernel
theorem dX12_passes_57 : decode cX12_passes 57 = .ok (.aload_n 0, 1) := by decide +kernel
theorem dX12_passes_58 : decode cX12_passes 58 = .ok (.getfield 466, 3) := by decide +kernel
theorem dX12_passes_61 : decode cX12_passes 61 = .ok (.invokestatic 476, 3) := by decide +kernel
theorem dX12_passes_64 : decode cX12_passes 64 = .ok (.iastore, 1) := by decide +kernel
theorem dX12_passes_65 : decode cX12_passes 65 = .ok (.aload_n 0, 1) := by decide +kernel
theorem dX12_passes_66 : decode cX12_passes 66 = .ok (.getfield 139, 3) := by decide +kernel
theorem dX12_passes_69 : decode cX12_passes 69 = .ok (.iconst 1, 1) := by decide +kernel
theorem dX12_passes_70 : decode cX12_passes 70 = .ok (.aload_n 0, 1) := by decide +kernel
theorem dX12_passes_71 : decode cX12_passes 71 = .ok (.getfield 468, 3) := by decide +kernel
theorem dX12_passes_74 : decode cX12_passes 74 = .ok (.invokestatic 476, 3) := by decide +kernel
theorem dX12_passes_77 : decode cX12_passes 77 = .ok (.iastore, 1) := by decide +kernel
theorem dX12_passes_78 : decode cX12_passes 78 = .ok (.aload_n 0, 1) := by decide +kernel
theorem dX12_passes_79 : decode cX12_passes 79 = .ok (.getfield 139, 3) := by decide +kernel
theorem dX12_passes_82 : decode cX12_passes 82 = .ok (.iconst 2, 1) := by decide +kernel
theorem dX12_passes_83 : decode cX12_passes 83 = .ok (.aload_n 0, 1) := by decide +kernel
theorem dX12_passes_84 : decode cX12_passes 84 = .ok (.getfield 463, 3) := by decide +kernel
theorem dX12_passes_87 : decode cX12_passes 87 = .ok (.invokestatic 476, 3) := by decide +kernel
theorem dX12_passes_90 : decode cX12_passes 90 = .ok (.iastore, 1) := by decide +kernel
theorem dX12_passes_91 : decode cX12_passes 91 = .ok (.aload_n 0, 1) := by decide +kernel
theorem dX12_passes_92 : decode cX12_passes 92 = .ok (.getfield 139, 3) := by decide +kernel
theorem dX12_passes_95 : decode cX12_passes 95 = .ok (.iconst 3, 1) := by decide +kernel
theorem dX12_passes_96 : decode cX12_passes 96 = .ok (.aload_n 0, 1) := by decide +kernel
theorem dX12_passes_97 : decode cX12_passes 97 = .ok (.getfield 470, 3) := by decide +kernel
theorem dX12_passes_100 : decode cX12_passes 100 = .ok (.iastore, 1) := by decide +kernel
theorem dX12_passes_101 : decode cX12_passes 101 = .ok (.aload_n 0, 1) := by decide +kernel
theorem dX12_passes_102 : decode cX12_passes 102 = .ok (.getfield 139, 3) := by decide +kernel
theorem dX12_passes_105 : decode cX12_passes 105 = .ok (.iconst 4, 1) := by decide +kernel
theorem dX12_passes_106 : decode cX12_passes 106 = .ok (.aload_n 0, 1) := by decide +kernel
theorem dX12_passes_107 : decode cX12_passes 107 = .ok (.iload_n 1, 1) := by decide +kernel
theorem dX12_passes_108 : decode cX12_passes 108 = .ok (.aload_n 3, 1) := by decide +kernel
theorem dX12_passes_109 : decode cX12_passes 109 = .ok (.invokevirtual 501, 3) := by decide +kernel
theorem dX12_passes_112 : decode cX12_passes 112 = .ok (.iastore, 1) := by decide +kernel
theorem dX12_passes_113 : decode cX12_passes 113 = .ok (.aload_n 0, 1) := by decide +kernel
theorem dX12_passes_114 : decode cX12_passes 114 = .ok (.getfield 139, 3) := by decide +kernel
theorem dX12_passes_117 : decode cX12_passes 117 = .ok (.iconst 5, 1) := by decide +kernel
theorem dX12_passes_118 : decode cX12_passes 118 = .ok (.iload_n 2, 1) := by decide +kernel
theorem dX12_passes_119 : decode cX12_passes 119 = .ok (.iastore, 1) := by decide +kernel
theorem dX12_passes_120 : decode cX12_passes 120 = .ok (.aload_n 0, 1) := by decide +kernel
theorem dX12_passes_121 : decode cX12_passes 121 = .ok (.iload 4, 2) := by decide +kernel
theorem dX12_passes_123 : decode cX12_passes 123 = .ok (.invokevirtual 457, 3) := by decide +kernel
theorem dX12_passes_126 : decode cX12_passes 126 = .ok (.iconst 1, 1) := by decide +kernel
theorem dX12_passes_127 : decode cX12_passes 127 = .ok (.if_icmp .ne 7, 3) := by decide +kernel
theorem dX12_passes_130 : decode cX12_passes 130 = .ok (.iconst 1, 1) := by decide +kernel
theorem dX12_passes_131 : decode cX12_passes 131 = .ok (.goto 4, 3) := by decide +kernel
theorem dX12_passes_134 : decode cX12_passes 134 = .ok (.iconst 0, 1) := by decide +kernel
theorem dX12_passes_135 : decode cX12_passes 135 = .ok (.ireturn, 1) := by decide +kernel
theorem dX12_readLine_0 : decode cX12_readLine 0 = .ok (.aload_n 0, 1) := by decide +kernel
theorem dX12_readLine_1 : decode cX12_readLine 1 = .ok (.ldc_w 505, 3) := by decide +kernel
theorem dX12_readLine_4 : decode cX12_readLine 4 = .ok (.invokevirtual 329, 3) := by decide +kernel
theorem dX12_readLine_7 : decode cX12_readLine 7 = .ok (.ifCond .ne 11, 3) := by decide +kernel
theorem dX12_readLine_10 : decode cX12_readLine 10 = .ok (.aload_n 0, 1) := by decide +kernel
theorem dX12_readLine_11 : decode cX12_readLine 11 = .ok (.iconst 1, 1) := by decide +kernel
theorem dX12_readLine_12 : decode cX12_readLine 12 = .ok (.invokevirtual 325, 3) := by decide +kernel
theorem dX12_readLine_15 : decode cX12_readLine 15 = .ok (.goto 14, 3) := by decide +kernel
theorem dX12_readLine_18 : decode cX12_readLine 18 = .ok (.iload_n 2, 1) := by decide +kernel
theorem dX12_readLine_19 : decode cX12_readLine 19 = .ok (.bipush 12, 2) := by decide +kernel
theorem dX12_readLine_21 : decode cX12_readLine 21 = .ok (.if_icmp .ne 8, 3) := by decide +kernel
theorem dX12_readLine_24 : decode cX12_readLine 24 = .ok (.aload_n 0, 1) := by decide +kernel
theorem dX12_readLine_25 : decode cX12_readLine 25 = .ok (.iconst 4, 1) := by decide +kernel
theorem dX12_readLine_26 : decode cX12_readLine 26 = .ok (.invokevirtual 325, 3) := by decide +kernel
theorem dX12_readLine_29 : decode cX12_readLine 29 = .ok (.aload_n 0, 1) := by decide +kernel
theorem dX12_readLine_30 : decode cX12_readLine 30 = .ok (.invokevirtual 316, 3) := by decide +kernel
theorem dX12_readLine_33 : decode cX12_readLine 33 = .ok (.ifCond .ne 4, 3) := by decide +kernel
theorem dX12_readLine_36 : decode cX12_readLine 36 = .ok (.return_, 1) := by decide +kernel
theorem dX12_readLine_37 : decode cX12_readLine 37 = .ok (.aload_n 0, 1) := by decide +kernel
theorem dX12_readLine_38 : decode cX12_readLine 38 = .ok (.invokevirtual 322, 3) := by decide +kernel
theorem dX12_readLine_41 : decode cX12_readLine 41 = .ok (.aload_n 0, 1) := by decide +kernel
theorem dX12_readLine_42 : decode cX12_readLine 42 = .ok (.ldc_w 378, 3) := by decide +kernel
theorem dX12_readLine_45 : decode cX12_readLine 45 = .ok (.invokevirtual 329, 3) := by decide +kernel
theorem dX12_readLine_48 : decode cX12_readLine 48 = .ok (.istore_n 3, 1) := by decide +kernel
theorem dX12_readLine_49 : decode cX12_readLine 49 = .ok (.iload_n 3, 1) := by decide +kernel
theorem dX12_readLine_50 : decode cX12_readLine 50 = .ok (.ifCond .eq 7, 3) := by decide +kernel
theorem dX12_readLine_53 : decode cX12_readLine 53 = .ok (.aload_n 0, 1) := by decide +kernel
theorem dX12_readLine_54 : decode cX12_readLine 54 = .ok (.invokevirtual 322, 3) := by decide +kernel
theorem dX12_readLine_57 : decode cX12_readLine 57 = .ok (.aload_n 0, 1) := by decide +kernel
theorem dX12_readLine_58 : decode cX12_readLine 58 = .ok (.invokevirtual 316, 3) := by decide +kernel
theorem dX12_readLine_61 : decode cX12_readLine 61 = .ok (.ifCond .eq 16, 3) := by decide +kernel
theorem dX12_readLine_64 : decode cX12_readLine 64 = .ok (.aload_n 0, 1) := by decide +kernel
theorem dX12_readLine_65 : decode cX12_readLine 65 = .ok (.getfield 285, 3) := by decide +kernel
theorem dX12_readLine_68 : decode cX12_readLine 68 = .ok (.iconst 2, 1) := by decide +kernel
theorem dX12_readLine_69 : decode cX12_readLine 69 = .ok (.if_icmp .eq 8, 3) := by decide +kernel
theorem dX12_readLine_72 : decode cX12_readLine 72 = .ok (.aload_n 0, 1) := by decide +kernel
theorem dX12_readLine_73 : decode cX12_readLine 73 = .ok (.iconst 1, 1) := by decide +kernel
theorem dX12_readLine_74 : decode cX12_readLine 74 = .ok (.invokevirtual 325, 3) := by decide +kernel
theorem dX12_readLine_77 : decode cX12_readLine 77 = .ok (.aload_n 0, 1) := by decide +kernel
theorem dX12_readLine_78 : decode cX12_readLine 78 = .ok (.invokevirtual 316, 3) := by decide +kernel
theorem dX12_readLine_81 : decode cX12_readLine 81 = .ok (.ifCond .eq 33, 3) := by decide +kernel
theorem dX12_readLine_84 : decode cX12_readLine 84 = .ok (.aload_n 0, 1) := by decide +kernel
theorem dX12_readLine_85 : decode cX12_readLine 85 = .ok (.getfield 288, 3) := by decide +kernel
theorem dX12_readLine_88 : decode cX12_readLine 88 = .ok (.iconst 1, 1) := by decide +kernel
theorem dX12_readLine_89 : decode cX12_readLine 89 = .ok (.bipush 60, 2) := by decide +kernel
theorem dX12_readLine_91 : decode cX12_readLine 91 = .ok (.invokestatic 215, 3) := by decide +kernel
theorem dX12_readLine_94 : decode cX12_readLine 94 = .ok (.ifCond .eq 15, 3) := by decide +kernel
theorem dX12_readLine_97 : decode cX12_readLine 97 = .ok (.aload_n 0, 1) := by decide +kernel
theorem dX12_readLine_98 : decode cX12_readLine 98 = .ok (.aload_n 0, 1) := by decide +kernel
theorem dX12_readLine_99 : decode cX12_readLine 99 = .ok (.getfield 288, 3) := by decide +kernel
theorem dX12_readLine_102 : decode cX12_readLine 102 = .ok (.invokevirtual 486, 3) := by decide +kernel
theorem dX12_readLine_105 : decode cX12_readLine 105 = .ok (.iconst (-1), 1) := by decide +kernel
theorem dX12_readLine_106 : decode cX12_readLine 106 = .ok (.if_icmp .eq 8, 3) := by decide +kernel
theorem dX12_readLine_109 : decode cX12_readLine 109 = .ok (.aload_n 0, 1) := by decide +kernel
theorem dX12_readLine_110 : decode cX12_readLine 110 = .ok (.iconst 2, 1) := by decide +kernel
theorem dX12_readLine_111 : decode cX12_readLine 111 = .ok (.invokevirtual 325, 3) := by decide +kernel
theorem dX12_readLine_114 : decode cX12_readLine 114 = .ok (.aload_n 0, 1) := by decide +kernel
theorem dX12_readLine_115 : decode cX12_readLine 115 = .ok (.invokevirtual 316, 3) := by decide +kernel
theorem dX12_readLine_118 : decode cX12_readLine 118 = .ok (.ifCond .ne 4, 3) := by decide +kernel
theorem dX12_readLine_121 : decode cX12_readLine 121 = .ok (.return_, 1) := by decide +kernel
theorem dX12_readLine_122 : decode cX12_readLine 122 = .ok (.aload_n 0, 1) := by decide +kernel
theorem dX12_readLine_123 : decode cX12_readLine 123 = .ok (.getfield 152, 3) := by decide +kernel
theorem dX12_readLine_126 : decode cX12_readLine 126 = .ok (.iload_n 2, 1) := by decide +kernel
theorem dX12_readLine_127 : decode cX12_readLine 127 = .ok (.iload_n 3, 1) := by decide +kernel
theorem dX12_readLine_128 : decode cX12_readLine 128 = .ok (.ifCond .eq 11, 3) := by decide +kernel
theorem dX12_readLine_131 : decode cX12_readLine 131 = .ok (.aload_n 0, 1) := by decide +kernel
theorem dX12_readLine_132 : decode cX12_readLine 132 = .ok (.getfield 288, 3) := by decide +kernel
theorem dX12_readLine_135 : decode cX12_readLine 135 = .ok (.ineg, 1) := by decide +kernel
theorem dX12_readLine_136 : decode cX12_readLine 136 = .ok (.goto 7, 3) := by decide +kernel
theorem dX12_readLine_139 : decode cX12_readLine 139 = .ok (.aload_n 0, 1) := by decide +kernel
theorem dX12_readLine_140 : decode cX12_readLine 140 = .ok (.getfield 288, 3) := by decide +kernel
theorem dX12_readLine_143 : decode cX12_readLine 143 = .ok (.iastore, 1) := by decide +kernel
theorem dX12_readLine_144 : decode cX12_readLine 144 = .ok (.aload_n 0, 1) := by decide +kernel
theorem dX12_readLine_145 : decode cX12_readLine 145 = .ok (.getfield 158, 3) := by decide +kernel
theorem dX12_readLine_148 : decode cX12_readLine 148 = .ok (.iload_n 2, 1) := by decide +kernel
theorem dX12_readLine_149 : decode cX12_readLine 149 = .ok (.iconst (-1), 1) := by decide +kernel
theorem dX12_readLine_150 : decode cX12_readLine 150 = .ok (.iastore, 1) := by decide +kernel
theorem dX12_readLine_151 : decode cX12_readLine 151 = .ok (.aload_n 0, 1) := by decide +kernel
theorem dX12_readLine_152 : decode cX12_readLine 152 = .ok (.dup, 1) := by decide +kernel
theorem dX12_readLine_153 : decode cX12_readLine 153 = .ok (.getfield 483, 3) := by decide +kernel
theorem dX12_readLine_156 : decode cX12_readLine 156 = .ok (.iconst 1, 1) := by decide +kernel
theorem dX12_readLine_157 : decode cX12_readLine 157 = .ok (.iadd, 1) := by decide +kernel
theorem dX12_readLine_158 : decode cX12_readLine 158 = .ok (.putfield 483, 3) := by decide +kernel
theorem dX12_readLine_161 : decode cX12_readLine 161 = .ok (.aload_n 0, 1) := by decide +kernel
theorem dX12_readLine_162 : decode cX12_readLine 162 = .ok (.invokevirtual 322, 3) := by decide +kernel
theorem dX12_readLine_165 : decode cX12_readLine 165 = .ok (.aload_n 0, 1) := by decide +kernel
theorem dX12_readLine_166 : decode cX12_readLine 166 = .ok (.getfield 155, 3) := by decide +kernel
theorem dX12_readLine_169 : decode cX12_readLine 169 = .ok (.iload_n 2, 1) := by decide +kernel
theorem dX12_readLine_170 : decode cX12_readLine 170 = .ok (.aload_n 0, 1) := by decide +kernel
theorem dX12_readLine_171 : decode cX12_readLine 171 = .ok (.ldc_w 507, 3) := by decide +kernel
theorem dX12_readLine_174 : decode cX12_readLine 174 = .ok (.invokevirtual 329, 3) := by decide +kernel
theorem dX12_readLine_177 : decode cX12_readLine 177 = .ok (.bastore, 1) := by decide +kernel
theorem dX12_readLine_178 : decode cX12_readLine 178 = .ok (.aload_n 0, 1) := by decide +kernel
theorem dX12_readLine_179 : decode cX12_readLine 179 = .ok (.getfield 155, 3) := by decide +kernel
theorem dX12_readLine_182 : decode cX12_readLine 182 = .ok (.iload_n 2, 1) := by decide +kernel
theorem dX12_readLine_183 : decode cX12_readLine 183 = .ok (.baload, 1) := by decide +kernel
theorem dX12_readLine_184 : decode cX12_readLine 184 = .ok (.ifCond .eq 7, 3) := by decide +kernel
theorem dX12_readLine_187 : decode cX12_readLine 187 = .ok (.aload_n 0, 1) := by decide +kernel
theorem dX12_readLine_188 : decode cX12_readLine 188 = .ok (.invokevirtual 322, 3) := by decide +kernel
theorem dX12_readLine_191 : decode cX12_readLine 191 = .ok (.aload_n 0, 1) := by decide +kernel
theorem dX12_readLine_192 : decode cX12_readLine 192 = .ok (.bipush 59, 2) := by decide +kernel
theorem dX12_readLine_194 : decode cX12_readLine 194 = .ok (.invokevirtual 369, 3) := by decide +kernel
theorem dX12_readLine_197 : decode cX12_readLine 197 = .ok (.return_, 1) := by decide +kernel
theorem dX12_mayBeLate_0 : decode cX12_mayBeLate 0 = .ok (.aload_n 0, 1) := by decide +kernel
theorem dX12_mayBeLate_1 : decode cX12_mayBeLate 1 = .ok (.getfield 23, 3) := by decide +kernel
theorem dX12_mayBeLate_4 : decode cX12_mayBeLate 4 = .ok (.iconst (-1), 1) := by decide +kernel
theorem dX12_mayBeLate_5 : decode cX12_mayBeLate 5 = .ok (.if_icmp .eq 14, 3) := by decide +kernel
theorem dX12_mayBeLate_8 : decode cX12_mayBeLate 8 = .ok (.aload_n 0, 1) := by decide +kernel
theorem dX12_mayBeLate_9 : decode cX12_mayBeLate 9 = .ok (.getfield 212, 3) := by decide +kernel
theorem dX12_mayBeLate_12 : decode cX12_mayBeLate 12 = .ok (.aload_n 0, 1) := by decide +kernel
theorem dX12_mayBeLate_13 : decode cX12_mayBeLate 13 = .ok (.getfield 23, 3) := by decide +kernel
theorem dX12_mayBeLate_16 : decode cX12_mayBeLate 16 = .ok (.if_icmp .gt 5, 3) := by decide +kernel
theorem dX12_mayBeLate_19 : decode cX12_mayBeLate 19 = .ok (.iconst 1, 1) := by decide +kernel
theorem dX12_mayBeLate_20 : decode cX12_mayBeLate 20 = .ok (.ireturn, 1) := by decide +kernel
theorem dX12_mayBeLate_21 : decode cX12_mayBeLate 21 = .ok (.aload_n 0, 1) := by decide +kernel
theorem dX12_mayBeLate_22 : decode cX12_mayBeLate 22 = .ok (.bipush 7, 2) := by decide +kernel
theorem dX12_mayBeLate_24 : decode cX12_mayBeLate 24 = .ok (.invokevirtual 437, 3) := by decide +kernel
theorem dX12_mayBeLate_27 : decode cX12_mayBeLate 27 = .ok (.istore_n 2, 1) := by decide +kernel
theorem dX12_mayBeLate_28 : decode cX12_mayBeLate 28 = .ok (.iload_n 2, 1) := by decide +kernel
theorem dX12_mayBeLate_29 : decode cX12_mayBeLate 29 = .ok (.iconst (-1), 1) := by decide +kernel
theorem dX12_mayBeLate_30 : decode cX12_mayBeLate 30 = .ok (.if_icmp .ne 5, 3) := by decide +kernel
theorem dX12_mayBeLate_33 : decode cX12_mayBeLate 33 = .ok (.iconst 0, 1) := by decide +kernel
theorem dX12_mayBeLate_34 : decode cX12_mayBeLate 34 = .ok (.ireturn, 1) := by decide +kernel
theorem dX12_mayBeLate_35 : decode cX12_mayBeLate 35 = .ok (.aload_n 0, 1) := by decide +kernel
theorem dX12_mayBeLate_36 : decode cX12_mayBeLate 36 = .ok (.getfield 139, 3) := by decide +kernel
theorem dX12_mayBeLate_39 : decode cX12_mayBeLate 39 = .ok (.bipush 10, 2) := by decide +kernel
theorem dX12_mayBeLate_41 : decode cX12_mayBeLate 41 = .ok (.aload_n 0, 1) := by decide +kernel
theorem dX12_mayBeLate_42 : decode cX12_mayBeLate 42 = .ok (.iload_n 1, 1) := by decide +kernel
theorem dX12_mayBeLate_43 : decode cX12_mayBeLate 43 = .ok (.aload_n 0, 1) := by decide +kernel
theorem dX12_mayBeLate_44 : decode cX12_mayBeLate 44 = .ok (.getfield 212, 3) := by decide +kernel
theorem dX12_mayBeLate_47 : decode cX12_mayBeLate 47 = .ok (.invokevirtual 453, 3) := by decide +kernel
theorem dX12_mayBeLate_50 : decode cX12_mayBeLate 50 = .ok (.iastore, 1) := by decide +kernel
theorem dX12_mayBeLate_51 : decode cX12_mayBeLate 51 = .ok (.aload_n 0, 1) := by decide +kernel
theorem dX12_mayBeLate_52 : decode cX12_mayBeLate 52 = .ok (.getfield 139, 3) := by decide +kernel
theorem dX12_mayBeLate_55 : decode cX12_mayBeLate 55 = .ok (.bipush 11, 2) := by decide +kernel
theorem dX12_mayBeLate_57 : decode cX12_mayBeLate 57 = .ok (.aload_n 0, 1) := by decide +kernel
theorem dX12_mayBeLate_58 : decode cX12_mayBeLate 58 = .ok (.getfield 483, 3) := by decide +kernel
theorem dX12_mayBeLate_61 : decode cX12_mayBeLate 61 = .ok (.iastore, 1) := by decide +kernel
theorem dX12_mayBeLate_62 : decode cX12_mayBeLate 62 = .ok (.aload_n 0, 1) := by decide +kernel
theorem dX12_mayBeLate_63 : decode cX12_mayBeLate 63 = .ok (.getfield 139, 3) := by decide +kernel
theorem dX12_mayBeLate_66 : decode cX12_mayBeLate 66 = .ok (.bipush 12, 2) := by decide +kernel
theorem dX12_mayBeLate_68 : decode cX12_mayBeLate 68 = .ok (.aload_n 0, 1) := by decide +kernel
theorem dX12_mayBeLate_69 : decode cX12_mayBeLate 69 = .ok (.getfield 212, 3) := by decide +kernel
theorem dX12_mayBeLate_72 : decode cX12_mayBeLate 72 = .ok (.iastore, 1) := by decide +kernel
theorem dX12_mayBeLate_73 : decode cX12_mayBeLate 73 = .ok (.aload_n 0, 1) := by decide +kernel
theorem dX12_mayBeLate_74 : decode cX12_mayBeLate 74 = .ok (.iload_n 2, 1) := by decide +kernel
theorem dX12_mayBeLate_75 : decode cX12_mayBeLate 75 = .ok (.invokevirtual 457, 3) := by decide +kernel
theorem dX12_mayBeLate_78 : decode cX12_mayBeLate 78 = .ok (.iconst 1, 1) := by decide +kernel
theorem dX12_mayBeLate_79 : decode cX12_mayBeLate 79 = .ok (.if_icmp .ne 7, 3) := by decide +kernel
theorem dX12_mayBeLate_82 : decode cX12_mayBeLate 82 = .ok (.iconst 1, 1) := by decide +kernel
theorem dX12_mayBeLate_83 : decode cX12_mayBeLate 83 = .ok (.goto 4, 3) := by decide +kernel
theorem dX12_mayBeLate_86 : decode cX12_mayBeLate 86 = .ok (.iconst 0, 1) := by decide +kernel
theorem dX12_mayBeLate_87 : decode cX12_mayBeLate 87 = .ok (.ireturn, 1) := by decide +kernel
theorem dX12_motion_0 : decode cX12_motion 0 = .ok (.aload_n 0, 1) := by decide +kernel
theorem dX12_motion_1 : decode cX12_motion 1 = .ok (.iconst 0, 1) := by decide +kernel
theorem dX12_motion_2 : decode cX12_motion 2 = .ok (.putfield 1, 3) := by decide +kernel
theorem dX12_motion_5 : decode cX12_motion 5 = .ok (.aload_n 0, 1) := by decide +kernel
theorem dX12_motion_6 : decode cX12_motion 6 = .ok (.iload_n 1, 1) := by decide +kernel
theorem dX12_motion_7 : decode cX12_motion 7 = .ok (.invokevirtual 219, 3) := by decide +kernel
theorem dX12_motion_10 : decode cX12_motion 10 = .ok (.ifCond .eq 12, 3) := by decide +kernel
theorem dX12_motion_13 : decode cX12_motion 13 = .ok (.aload_n 0, 1) := by decide +kernel
theorem dX12_motion_14 : decode cX12_motion 14 = .ok (.getfield 231, 3) := by decide +kernel
theorem dX12_motion_17 : decode cX12_motion 17 = .ok (.bipush 24, 2) := by decide +kernel
theorem dX12_motion_19 : decode cX12_motion 19 = .ok (.if_icmp .ne 5, 3) := by decide +kernel
theorem dX12_motion_22 : decode cX12_motion 22 = .ok (.iconst (-1), 1) := by decide +kernel
theorem dX12_motion_23 : decode cX12_motion 23 = .ok (.ireturn, 1) := by decide +kernel
theorem dX12_motion_24 : decode cX12_motion 24 = .ok (.aload_n 0, 1) := by decide +kernel
theorem dX12_motion_25 : decode cX12_motion 25 = .ok (.invokevirtual 424, 3) := by decide +kernel
theorem dX12_motion_28 : decode cX12_motion 28 = .ok (.aload_n 0, 1) := by decide +kernel
theorem dX12_motion_29 : decode cX12_motion 29 = .ok (.iconst 0, 1) := by decide +kernel
theorem dX12_motion_30 : decode cX12_motion 30 = .ok (.putfield 483, 3) := by decide +kernel
theorem dX12_motion_33 : decode cX12_motion 33 = .ok (.aload_n 0, 1) := by decide +kernel
theorem dX12_motion_34 : decode cX12_motion 34 = .ok (.aload_n 0, 1) := by decide +kernel
theorem dX12_motion_35 : decode cX12_motion 35 = .ok (.getfield 231, 3) := by decide +kernel
theorem dX12_motion_38 : decode cX12_motion 38 = .ok (.iconst 0, 1) := by decide +kernel
theorem dX12_motion_39 : decode cX12_motion 39 = .ok (.invokevirtual 509, 3) := by decide +kernel
theorem dX12_motion_42 : decode cX12_motion 42 = .ok (.iconst 1, 1) := by decide +kernel
theorem dX12_motion_43 : decode cX12_motion 43 = .ok (.istore_n 2, 1) := by decide +kernel
theorem dX12_motion_44 : decode cX12_motion 44 = .ok (.aload_n 0, 1) := by decide +kernel
theorem dX12_motion_45 : decode cX12_motion 45 = .ok (.invokevirtual 316, 3) := by decide +kernel
theorem dX12_motion_48 : decode cX12_motion 48 = .ok (.ifCond .eq 25, 3) := by decide +kernel
theorem dX12_motion_51 : decode cX12_motion 51 = .ok (.aload_n 0, 1) := by decide +kernel
theorem dX12_motion_52 : decode cX12_motion 52 = .ok (.getfield 285, 3) := by decide +kernel
theorem dX12_motion_55 : decode cX12_motion 55 = .ok (.ifCond .eq 18, 3) := by decide +kernel
theorem dX12_motion_58 : decode cX12_motion 58 = .ok (.aload_n 0, 1) := by decide +kernel
theorem dX12_motion_59 : decode cX12_motion 59 = .ok (.aload_n 0, 1) := by decide +kernel
theorem dX12_motion_60 : decode cX12_motion 60 = .ok (.getfield 231, 3) := by decide +kernel
theorem dX12_motion_63 : decode cX12_motion 63 = .ok (.iload_n 2, 1) := by decide +kernel
theorem dX12_motion_64 : decode cX12_motion 64 = .ok (.invokevirtual 509, 3) := by decide +kernel
theorem dX12_motion_67 : decode cX12_motion 67 = .ok (.iinc 2 1, 3) := by decide +kernel
theorem dX12_motion_70 : decode cX12_motion 70 = .ok (.goto (-26), 3) := by decide +kernel
theorem dX12_motion_73 : decode cX12_motion 73 = .ok (.aload_n 0, 1) := by decide +kernel
theorem dX12_motion_74 : decode cX12_motion 74 = .ok (.invokevirtual 430, 3) := by decide +kernel
theorem dX12_motion_77 : decode cX12_motion 77 = .ok (.istore_n 2, 1) := by decide +kernel
theorem dX12_motion_78 : decode cX12_motion 78 = .ok (.iload_n 2, 1) := by decide +kernel
theorem dX12_motion_79 : decode cX12_motion 79 = .ok (.ifCond .ge 5, 3) := by decide +kernel
theorem dX12_motion_82 : decode cX12_motion 82 = .ok (.iload_n 2, 1) := by decide +kernel
theorem dX12_motion_83 : decode cX12_motion 83 = .ok (.ireturn, 1) := by decide +kernel
theorem dX12_motion_84 : decode cX12_motion 84 = .ok (.aload_n 0, 1) := by decide +kernel
theorem dX12_motion_85 : decode cX12_motion 85 = .ok (.iload_n 1, 1) := by decide +kernel
theorem dX12_motion_86 : decode cX12_motion 86 = .ok (.invokevirtual 513, 3) := by decide +kernel
theorem dX12_motion_89 : decode cX12_motion 89 = .ok (.ifCond .ne 6, 3) := by decide +kernel
theorem dX12_motion_92 : decode cX12_motion 92 = .ok (.bipush (-6), 2) := by decide +kernel
theorem dX12_motion_94 : decode cX12_motion 94 = .ok (.ireturn, 1) := by decide +kernel
theorem dX12_motion_95 : decode cX12_motion 95 = .ok (.aload_n 0, 1) := by decide +kernel
theorem dX12_motion_96 : decode cX12_motion 96 = .ok (.iload_n 1, 1) := by decide +kernel
theorem dX12_motion_97 : decode cX12_motion 97 = .ok (.invokevirtual 516, 3) := by decide +kernel
theorem dX12_motion_100 : decode cX12_motion 100 = .ok (.ireturn, 1) := by decide +kernel
theorem dX12_comes_0 : decode cX12_comes 0 = .ok (.aload_n 0, 1) := by decide +kernel
theorem dX12_comes_1 : decode cX12_comes 1 = .ok (.getfield 26, 3) := by decide +kernel
theorem dX12_comes_4 : decode cX12_comes 4 = .ok (.aload_n 0, 1) := by decide +kernel
theorem dX12_comes_5 : decode cX12_comes 5 = .ok (.getfield 231, 3) := by decide +kernel
theorem dX12_comes_8 : decode cX12_comes 8 = .ok (.iload_n 1, 1) := by decide +kernel
theorem dX12_comes_9 : decode cX12_comes 9 = .ok (.iastore, 1) := by decide +kernel
