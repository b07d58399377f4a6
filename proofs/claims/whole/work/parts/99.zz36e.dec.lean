/-! THE LAW: its instructions, 5 -/
theorem dl_349 : decode code 349 = .ok (.aload_n 2, 1) := by decide +kernel
theorem dl_350 : decode code 350 = .ok (.invokevirtual 63, 3) := by decide +kernel
theorem dl_353 : decode code 353 = .ok (.iload 5, 2) := by decide +kernel
theorem dl_355 : decode code 355 = .ok (.if_icmp .eq 5, 3) := by decide +kernel
theorem dl_358 : decode code 358 = .ok (.iconst 0, 1) := by decide +kernel
theorem dl_359 : decode code 359 = .ok (.ireturn, 1) := by decide +kernel
theorem dl_360 : decode code 360 = .ok (.iload 5, 2) := by decide +kernel
theorem dl_362 : decode code 362 = .ok (.ifCond .ne 15, 3) := by decide +kernel
theorem dl_365 : decode code 365 = .ok (.aload_n 3, 1) := by decide +kernel
theorem dl_366 : decode code 366 = .ok (.iconst 0, 1) := by decide +kernel
theorem dl_367 : decode code 367 = .ok (.laload, 1) := by decide +kernel
theorem dl_368 : decode code 368 = .ok (.iload 6, 2) := by decide +kernel
theorem dl_370 : decode code 370 = .ok (.i2l, 1) := by decide +kernel
theorem dl_371 : decode code 371 = .ok (.lcmp, 1) := by decide +kernel
theorem dl_372 : decode code 372 = .ok (.ifCond .eq 5, 3) := by decide +kernel
theorem dl_375 : decode code 375 = .ok (.iconst 0, 1) := by decide +kernel
theorem dl_376 : decode code 376 = .ok (.ireturn, 1) := by decide +kernel
theorem dl_377 : decode code 377 = .ok (.goto 87, 3) := by decide +kernel
theorem dl_380 : decode code 380 = .ok (.aload_n 1, 1) := by decide +kernel
theorem dl_381 : decode code 381 = .ok (.aload_n 0, 1) := by decide +kernel
theorem dl_382 : decode code 382 = .ok (.iload 4, 2) := by decide +kernel
theorem dl_384 : decode code 384 = .ok (.iconst 1, 1) := by decide +kernel
theorem dl_385 : decode code 385 = .ok (.iadd, 1) := by decide +kernel
theorem dl_386 : decode code 386 = .ok (.iaload, 1) := by decide +kernel
theorem dl_387 : decode code 387 = .ok (.invokestatic 74, 3) := by decide +kernel
theorem dl_390 : decode code 390 = .ok (.istore 5, 2) := by decide +kernel
theorem dl_392 : decode code 392 = .ok (.aload_n 2, 1) := by decide +kernel
theorem dl_393 : decode code 393 = .ok (.aload_n 0, 1) := by decide +kernel
theorem dl_394 : decode code 394 = .ok (.iload 4, 2) := by decide +kernel
theorem dl_396 : decode code 396 = .ok (.iconst 1, 1) := by decide +kernel
theorem dl_397 : decode code 397 = .ok (.iadd, 1) := by decide +kernel
theorem dl_398 : decode code 398 = .ok (.iaload, 1) := by decide +kernel
theorem dl_399 : decode code 399 = .ok (.invokevirtual 77, 3) := by decide +kernel
theorem dl_402 : decode code 402 = .ok (.aload_n 2, 1) := by decide +kernel
theorem dl_403 : decode code 403 = .ok (.invokevirtual 63, 3) := by decide +kernel
theorem dl_406 : decode code 406 = .ok (.iload 5, 2) := by decide +kernel
theorem dl_408 : decode code 408 = .ok (.if_icmp .eq 5, 3) := by decide +kernel
theorem dl_411 : decode code 411 = .ok (.iconst 0, 1) := by decide +kernel
theorem dl_412 : decode code 412 = .ok (.ireturn, 1) := by decide +kernel
theorem dl_413 : decode code 413 = .ok (.goto 51, 3) := by decide +kernel
theorem dl_416 : decode code 416 = .ok (.aload_n 1, 1) := by decide +kernel
theorem dl_417 : decode code 417 = .ok (.aload_n 0, 1) := by decide +kernel
theorem dl_418 : decode code 418 = .ok (.iload 4, 2) := by decide +kernel
theorem dl_420 : decode code 420 = .ok (.iconst 1, 1) := by decide +kernel
theorem dl_421 : decode code 421 = .ok (.iadd, 1) := by decide +kernel
theorem dl_422 : decode code 422 = .ok (.iaload, 1) := by decide +kernel
theorem dl_423 : decode code 423 = .ok (.aload_n 0, 1) := by decide +kernel
theorem dl_424 : decode code 424 = .ok (.iload 4, 2) := by decide +kernel
theorem dl_426 : decode code 426 = .ok (.iconst 2, 1) := by decide +kernel
theorem dl_427 : decode code 427 = .ok (.iadd, 1) := by decide +kernel
