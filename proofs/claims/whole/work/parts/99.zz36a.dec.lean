/-! THE LAW: its instructions, 1 -/
theorem dl_0 : decode code 0 = .ok (.new 8, 3) := by decide +kernel
theorem dl_3 : decode code 3 = .ok (.dup, 1) := by decide +kernel
theorem dl_4 : decode code 4 = .ok (.invokespecial 35, 3) := by decide +kernel
theorem dl_7 : decode code 7 = .ok (.astore_n 1, 1) := by decide +kernel
theorem dl_8 : decode code 8 = .ok (.new 36, 3) := by decide +kernel
theorem dl_11 : decode code 11 = .ok (.dup, 1) := by decide +kernel
theorem dl_12 : decode code 12 = .ok (.invokespecial 38, 3) := by decide +kernel
theorem dl_15 : decode code 15 = .ok (.astore_n 2, 1) := by decide +kernel
theorem dl_16 : decode code 16 = .ok (.iconst 1, 1) := by decide +kernel
theorem dl_17 : decode code 17 = .ok (.newarray .long, 2) := by decide +kernel
theorem dl_19 : decode code 19 = .ok (.astore_n 3, 1) := by decide +kernel
theorem dl_20 : decode code 20 = .ok (.iconst 0, 1) := by decide +kernel
theorem dl_21 : decode code 21 = .ok (.istore 4, 2) := by decide +kernel
theorem dl_23 : decode code 23 = .ok (.iload 4, 2) := by decide +kernel
theorem dl_25 : decode code 25 = .ok (.aload_n 0, 1) := by decide +kernel
theorem dl_26 : decode code 26 = .ok (.arraylength, 1) := by decide +kernel
theorem dl_27 : decode code 27 = .ok (.iconst 5, 1) := by decide +kernel
theorem dl_28 : decode code 28 = .ok (.isub, 1) := by decide +kernel
theorem dl_29 : decode code 29 = .ok (.if_icmp .gt 441, 3) := by decide +kernel
theorem dl_32 : decode code 32 = .ok (.aload_n 0, 1) := by decide +kernel
theorem dl_33 : decode code 33 = .ok (.iload 4, 2) := by decide +kernel
theorem dl_35 : decode code 35 = .ok (.iaload, 1) := by decide +kernel
theorem dl_36 : decode code 36 = .ok (.bipush 15, 2) := by decide +kernel
theorem dl_38 : decode code 38 = .ok (.iand, 1) := by decide +kernel
theorem dl_39 : decode code 39 = .ok (.tableswitch 425 0 8 #[49, 74, 87, 100, 113, 169, 249, 341, 377], 49) := by decide +kernel
theorem dl_88 : decode code 88 = .ok (.aload_n 1, 1) := by decide +kernel
theorem dl_89 : decode code 89 = .ok (.aload_n 0, 1) := by decide +kernel
theorem dl_90 : decode code 90 = .ok (.iload 4, 2) := by decide +kernel
theorem dl_92 : decode code 92 = .ok (.iconst 1, 1) := by decide +kernel
theorem dl_93 : decode code 93 = .ok (.iadd, 1) := by decide +kernel
theorem dl_94 : decode code 94 = .ok (.iaload, 1) := by decide +kernel
theorem dl_95 : decode code 95 = .ok (.invokevirtual 39, 3) := by decide +kernel
theorem dl_98 : decode code 98 = .ok (.aload_n 2, 1) := by decide +kernel
theorem dl_99 : decode code 99 = .ok (.aload_n 0, 1) := by decide +kernel
theorem dl_100 : decode code 100 = .ok (.iload 4, 2) := by decide +kernel
theorem dl_102 : decode code 102 = .ok (.iconst 1, 1) := by decide +kernel
theorem dl_103 : decode code 103 = .ok (.iadd, 1) := by decide +kernel
theorem dl_104 : decode code 104 = .ok (.iaload, 1) := by decide +kernel
theorem dl_105 : decode code 105 = .ok (.invokevirtual 43, 3) := by decide +kernel
theorem dl_108 : decode code 108 = .ok (.if_icmp .eq 356, 3) := by decide +kernel
theorem dl_111 : decode code 111 = .ok (.iconst 0, 1) := by decide +kernel
theorem dl_112 : decode code 112 = .ok (.ireturn, 1) := by decide +kernel
theorem dl_113 : decode code 113 = .ok (.aload_n 1, 1) := by decide +kernel
theorem dl_114 : decode code 114 = .ok (.invokevirtual 44, 3) := by decide +kernel
theorem dl_117 : decode code 117 = .ok (.aload_n 2, 1) := by decide +kernel
theorem dl_118 : decode code 118 = .ok (.invokevirtual 48, 3) := by decide +kernel
theorem dl_121 : decode code 121 = .ok (.if_icmp .eq 343, 3) := by decide +kernel
theorem dl_124 : decode code 124 = .ok (.iconst 0, 1) := by decide +kernel
theorem dl_125 : decode code 125 = .ok (.ireturn, 1) := by decide +kernel
theorem dl_126 : decode code 126 = .ok (.aload_n 1, 1) := by decide +kernel
