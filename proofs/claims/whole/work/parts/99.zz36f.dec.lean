/-! THE LAW: its instructions, 6 -/
theorem dl_428 : decode code 428 = .ok (.iaload, 1) := by decide +kernel
theorem dl_429 : decode code 429 = .ok (.invokestatic 78, 3) := by decide +kernel
theorem dl_432 : decode code 432 = .ok (.istore 5, 2) := by decide +kernel
theorem dl_434 : decode code 434 = .ok (.aload_n 2, 1) := by decide +kernel
theorem dl_435 : decode code 435 = .ok (.aload_n 0, 1) := by decide +kernel
theorem dl_436 : decode code 436 = .ok (.iload 4, 2) := by decide +kernel
theorem dl_438 : decode code 438 = .ok (.iconst 1, 1) := by decide +kernel
theorem dl_439 : decode code 439 = .ok (.iadd, 1) := by decide +kernel
theorem dl_440 : decode code 440 = .ok (.iaload, 1) := by decide +kernel
theorem dl_441 : decode code 441 = .ok (.aload_n 0, 1) := by decide +kernel
theorem dl_442 : decode code 442 = .ok (.iload 4, 2) := by decide +kernel
theorem dl_444 : decode code 444 = .ok (.iconst 2, 1) := by decide +kernel
theorem dl_445 : decode code 445 = .ok (.iadd, 1) := by decide +kernel
theorem dl_446 : decode code 446 = .ok (.iaload, 1) := by decide +kernel
theorem dl_447 : decode code 447 = .ok (.invokevirtual 81, 3) := by decide +kernel
theorem dl_450 : decode code 450 = .ok (.aload_n 2, 1) := by decide +kernel
theorem dl_451 : decode code 451 = .ok (.invokevirtual 63, 3) := by decide +kernel
theorem dl_454 : decode code 454 = .ok (.iload 5, 2) := by decide +kernel
theorem dl_456 : decode code 456 = .ok (.if_icmp .eq 5, 3) := by decide +kernel
theorem dl_459 : decode code 459 = .ok (.iconst 0, 1) := by decide +kernel
theorem dl_460 : decode code 460 = .ok (.ireturn, 1) := by decide +kernel
theorem dl_461 : decode code 461 = .ok (.goto 3, 3) := by decide +kernel
theorem dl_464 : decode code 464 = .ok (.iinc 4 5, 3) := by decide +kernel
theorem dl_467 : decode code 467 = .ok (.goto (-444), 3) := by decide +kernel
theorem dl_470 : decode code 470 = .ok (.iconst 1, 1) := by decide +kernel
theorem dl_471 : decode code 471 = .ok (.ireturn, 1) := by decide +kernel
