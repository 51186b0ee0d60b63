/-! the law's instructions -/
theorem dw_436 : decode code 436 = .ok (.i2l, 1) := by decide +kernel
theorem dw_437 : decode code 437 = .ok (.lcmp, 1) := by decide +kernel
theorem dw_438 : decode code 438 = .ok (.ifCond .eq 5, 3) := by decide +kernel
theorem dw_441 : decode code 441 = .ok (.iconst 0, 1) := by decide +kernel
theorem dw_442 : decode code 442 = .ok (.ireturn, 1) := by decide +kernel
theorem dw_443 : decode code 443 = .ok (.goto 72, 3) := by decide +kernel
theorem dw_446 : decode code 446 = .ok (.aload_n 1, 1) := by decide +kernel
theorem dw_447 : decode code 447 = .ok (.invokevirtual 76, 3) := by decide +kernel
theorem dw_450 : decode code 450 = .ok (.aload_n 2, 1) := by decide +kernel
theorem dw_451 : decode code 451 = .ok (.invokevirtual 79, 3) := by decide +kernel
theorem dw_454 : decode code 454 = .ok (.if_icmp .eq 61, 3) := by decide +kernel
theorem dw_457 : decode code 457 = .ok (.iconst 0, 1) := by decide +kernel
theorem dw_458 : decode code 458 = .ok (.ireturn, 1) := by decide +kernel
theorem dw_459 : decode code 459 = .ok (.aload_n 1, 1) := by decide +kernel
theorem dw_460 : decode code 460 = .ok (.aload_n 0, 1) := by decide +kernel
theorem dw_461 : decode code 461 = .ok (.iload 4, 2) := by decide +kernel
theorem dw_463 : decode code 463 = .ok (.iconst 1, 1) := by decide +kernel
theorem dw_464 : decode code 464 = .ok (.iadd, 1) := by decide +kernel
theorem dw_465 : decode code 465 = .ok (.iaload, 1) := by decide +kernel
theorem dw_466 : decode code 466 = .ok (.aload_n 3, 1) := by decide +kernel
theorem dw_467 : decode code 467 = .ok (.invokestatic 80, 3) := by decide +kernel
theorem dw_470 : decode code 470 = .ok (.istore 5, 2) := by decide +kernel
theorem dw_472 : decode code 472 = .ok (.aload_n 2, 1) := by decide +kernel
theorem dw_473 : decode code 473 = .ok (.aload_n 0, 1) := by decide +kernel
theorem dw_474 : decode code 474 = .ok (.iload 4, 2) := by decide +kernel
theorem dw_476 : decode code 476 = .ok (.iconst 1, 1) := by decide +kernel
theorem dw_477 : decode code 477 = .ok (.iadd, 1) := by decide +kernel
theorem dw_478 : decode code 478 = .ok (.iaload, 1) := by decide +kernel
theorem dw_479 : decode code 479 = .ok (.invokevirtual 83, 3) := by decide +kernel
theorem dw_482 : decode code 482 = .ok (.istore 6, 2) := by decide +kernel
theorem dw_484 : decode code 484 = .ok (.aload_n 2, 1) := by decide +kernel
theorem dw_485 : decode code 485 = .ok (.invokevirtual 50, 3) := by decide +kernel
theorem dw_488 : decode code 488 = .ok (.iload 5, 2) := by decide +kernel
theorem dw_490 : decode code 490 = .ok (.if_icmp .eq 5, 3) := by decide +kernel
theorem dw_493 : decode code 493 = .ok (.iconst 0, 1) := by decide +kernel
theorem dw_494 : decode code 494 = .ok (.ireturn, 1) := by decide +kernel
theorem dw_495 : decode code 495 = .ok (.iload 5, 2) := by decide +kernel
theorem dw_497 : decode code 497 = .ok (.ifCond .ne 15, 3) := by decide +kernel
theorem dw_500 : decode code 500 = .ok (.aload_n 3, 1) := by decide +kernel
theorem dw_501 : decode code 501 = .ok (.iconst 0, 1) := by decide +kernel
theorem dw_502 : decode code 502 = .ok (.laload, 1) := by decide +kernel
theorem dw_503 : decode code 503 = .ok (.iload 6, 2) := by decide +kernel
theorem dw_505 : decode code 505 = .ok (.i2l, 1) := by decide +kernel
theorem dw_506 : decode code 506 = .ok (.lcmp, 1) := by decide +kernel
theorem dw_507 : decode code 507 = .ok (.ifCond .eq 5, 3) := by decide +kernel
theorem dw_510 : decode code 510 = .ok (.iconst 0, 1) := by decide +kernel
theorem dw_511 : decode code 511 = .ok (.ireturn, 1) := by decide +kernel
theorem dw_512 : decode code 512 = .ok (.goto 3, 3) := by decide +kernel
theorem dw_515 : decode code 515 = .ok (.iinc 4 4, 3) := by decide +kernel
theorem dw_518 : decode code 518 = .ok (.goto (-495), 3) := by decide +kernel
