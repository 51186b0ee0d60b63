/-! the law's instructions -/
theorem dw_360 : decode code 360 = .ok (.ifCond .ne 15, 3) := by decide +kernel
theorem dw_363 : decode code 363 = .ok (.aload_n 3, 1) := by decide +kernel
theorem dw_364 : decode code 364 = .ok (.iconst 0, 1) := by decide +kernel
theorem dw_365 : decode code 365 = .ok (.laload, 1) := by decide +kernel
theorem dw_366 : decode code 366 = .ok (.iload 6, 2) := by decide +kernel
theorem dw_368 : decode code 368 = .ok (.i2l, 1) := by decide +kernel
theorem dw_369 : decode code 369 = .ok (.lcmp, 1) := by decide +kernel
theorem dw_370 : decode code 370 = .ok (.ifCond .eq 5, 3) := by decide +kernel
theorem dw_373 : decode code 373 = .ok (.iconst 0, 1) := by decide +kernel
theorem dw_374 : decode code 374 = .ok (.ireturn, 1) := by decide +kernel
theorem dw_375 : decode code 375 = .ok (.goto 140, 3) := by decide +kernel
theorem dw_378 : decode code 378 = .ok (.aload_n 1, 1) := by decide +kernel
theorem dw_379 : decode code 379 = .ok (.aload_n 0, 1) := by decide +kernel
theorem dw_380 : decode code 380 = .ok (.iload 4, 2) := by decide +kernel
theorem dw_382 : decode code 382 = .ok (.iconst 1, 1) := by decide +kernel
theorem dw_383 : decode code 383 = .ok (.iadd, 1) := by decide +kernel
theorem dw_384 : decode code 384 = .ok (.iaload, 1) := by decide +kernel
theorem dw_385 : decode code 385 = .ok (.aload_n 0, 1) := by decide +kernel
theorem dw_386 : decode code 386 = .ok (.iload 4, 2) := by decide +kernel
theorem dw_388 : decode code 388 = .ok (.iconst 2, 1) := by decide +kernel
theorem dw_389 : decode code 389 = .ok (.iadd, 1) := by decide +kernel
theorem dw_390 : decode code 390 = .ok (.iaload, 1) := by decide +kernel
theorem dw_391 : decode code 391 = .ok (.aload_n 3, 1) := by decide +kernel
theorem dw_392 : decode code 392 = .ok (.invokestatic 73, 3) := by decide +kernel
theorem dw_395 : decode code 395 = .ok (.istore 5, 2) := by decide +kernel
theorem dw_397 : decode code 397 = .ok (.aload_n 2, 1) := by decide +kernel
theorem dw_398 : decode code 398 = .ok (.aload_n 0, 1) := by decide +kernel
theorem dw_399 : decode code 399 = .ok (.iload 4, 2) := by decide +kernel
theorem dw_401 : decode code 401 = .ok (.iconst 1, 1) := by decide +kernel
theorem dw_402 : decode code 402 = .ok (.iadd, 1) := by decide +kernel
theorem dw_403 : decode code 403 = .ok (.iaload, 1) := by decide +kernel
theorem dw_404 : decode code 404 = .ok (.aload_n 0, 1) := by decide +kernel
theorem dw_405 : decode code 405 = .ok (.iload 4, 2) := by decide +kernel
theorem dw_407 : decode code 407 = .ok (.iconst 2, 1) := by decide +kernel
theorem dw_408 : decode code 408 = .ok (.iadd, 1) := by decide +kernel
theorem dw_409 : decode code 409 = .ok (.iaload, 1) := by decide +kernel
theorem dw_410 : decode code 410 = .ok (.invokevirtual 75, 3) := by decide +kernel
theorem dw_413 : decode code 413 = .ok (.istore 6, 2) := by decide +kernel
theorem dw_415 : decode code 415 = .ok (.aload_n 2, 1) := by decide +kernel
theorem dw_416 : decode code 416 = .ok (.invokevirtual 50, 3) := by decide +kernel
theorem dw_419 : decode code 419 = .ok (.iload 5, 2) := by decide +kernel
theorem dw_421 : decode code 421 = .ok (.if_icmp .eq 5, 3) := by decide +kernel
theorem dw_424 : decode code 424 = .ok (.iconst 0, 1) := by decide +kernel
theorem dw_425 : decode code 425 = .ok (.ireturn, 1) := by decide +kernel
theorem dw_426 : decode code 426 = .ok (.iload 5, 2) := by decide +kernel
theorem dw_428 : decode code 428 = .ok (.ifCond .ne 15, 3) := by decide +kernel
theorem dw_431 : decode code 431 = .ok (.aload_n 3, 1) := by decide +kernel
theorem dw_432 : decode code 432 = .ok (.iconst 0, 1) := by decide +kernel
theorem dw_433 : decode code 433 = .ok (.laload, 1) := by decide +kernel
theorem dw_434 : decode code 434 = .ok (.iload 6, 2) := by decide +kernel
