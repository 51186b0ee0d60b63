/-! the law's instructions -/
theorem dw_0 : decode code 0 = .ok (.new 8, 3) := by decide +kernel
theorem dw_3 : decode code 3 = .ok (.dup, 1) := by decide +kernel
theorem dw_4 : decode code 4 = .ok (.invokespecial 28, 3) := by decide +kernel
theorem dw_7 : decode code 7 = .ok (.astore_n 1, 1) := by decide +kernel
theorem dw_8 : decode code 8 = .ok (.new 29, 3) := by decide +kernel
theorem dw_11 : decode code 11 = .ok (.dup, 1) := by decide +kernel
theorem dw_12 : decode code 12 = .ok (.invokespecial 31, 3) := by decide +kernel
theorem dw_15 : decode code 15 = .ok (.astore_n 2, 1) := by decide +kernel
theorem dw_16 : decode code 16 = .ok (.iconst 1, 1) := by decide +kernel
theorem dw_17 : decode code 17 = .ok (.newarray .long, 2) := by decide +kernel
theorem dw_19 : decode code 19 = .ok (.astore_n 3, 1) := by decide +kernel
theorem dw_20 : decode code 20 = .ok (.iconst 0, 1) := by decide +kernel
theorem dw_21 : decode code 21 = .ok (.istore 4, 2) := by decide +kernel
theorem dw_23 : decode code 23 = .ok (.iload 4, 2) := by decide +kernel
theorem dw_25 : decode code 25 = .ok (.aload_n 0, 1) := by decide +kernel
theorem dw_26 : decode code 26 = .ok (.arraylength, 1) := by decide +kernel
theorem dw_27 : decode code 27 = .ok (.iconst 4, 1) := by decide +kernel
theorem dw_28 : decode code 28 = .ok (.isub, 1) := by decide +kernel
theorem dw_29 : decode code 29 = .ok (.if_icmp .gt 492, 3) := by decide +kernel
theorem dw_32 : decode code 32 = .ok (.aload_n 0, 1) := by decide +kernel
theorem dw_33 : decode code 33 = .ok (.iload 4, 2) := by decide +kernel
theorem dw_35 : decode code 35 = .ok (.iaload, 1) := by decide +kernel
theorem dw_36 : decode code 36 = .ok (.bipush 15, 2) := by decide +kernel
theorem dw_38 : decode code 38 = .ok (.iand, 1) := by decide +kernel
theorem dw_39 : decode code 39 = .ok (.tableswitch 476 0 10 #[57, 126, 151, 195, 208, 233, 258, 271, 339, 407, 420], 57) := by decide +kernel
theorem dw_96 : decode code 96 = .ok (.aload_n 1, 1) := by decide +kernel
theorem dw_97 : decode code 97 = .ok (.aload_n 0, 1) := by decide +kernel
theorem dw_98 : decode code 98 = .ok (.iload 4, 2) := by decide +kernel
theorem dw_100 : decode code 100 = .ok (.iconst 1, 1) := by decide +kernel
theorem dw_101 : decode code 101 = .ok (.iadd, 1) := by decide +kernel
theorem dw_102 : decode code 102 = .ok (.iaload, 1) := by decide +kernel
theorem dw_103 : decode code 103 = .ok (.i2l, 1) := by decide +kernel
theorem dw_104 : decode code 104 = .ok (.bipush 32, 2) := by decide +kernel
theorem dw_106 : decode code 106 = .ok (.lshl, 1) := by decide +kernel
theorem dw_107 : decode code 107 = .ok (.aload_n 0, 1) := by decide +kernel
theorem dw_108 : decode code 108 = .ok (.iload 4, 2) := by decide +kernel
theorem dw_110 : decode code 110 = .ok (.iconst 2, 1) := by decide +kernel
theorem dw_111 : decode code 111 = .ok (.iadd, 1) := by decide +kernel
theorem dw_112 : decode code 112 = .ok (.iaload, 1) := by decide +kernel
theorem dw_113 : decode code 113 = .ok (.i2l, 1) := by decide +kernel
theorem dw_114 : decode code 114 = .ok (.ldc2_w 32, 3) := by decide +kernel
theorem dw_117 : decode code 117 = .ok (.land, 1) := by decide +kernel
theorem dw_118 : decode code 118 = .ok (.lor, 1) := by decide +kernel
theorem dw_119 : decode code 119 = .ok (.aload_n 0, 1) := by decide +kernel
theorem dw_120 : decode code 120 = .ok (.iload 4, 2) := by decide +kernel
theorem dw_122 : decode code 122 = .ok (.iconst 3, 1) := by decide +kernel
theorem dw_123 : decode code 123 = .ok (.iadd, 1) := by decide +kernel
theorem dw_124 : decode code 124 = .ok (.iaload, 1) := by decide +kernel
theorem dw_125 : decode code 125 = .ok (.invokevirtual 34, 3) := by decide +kernel
theorem dw_128 : decode code 128 = .ok (.aload_n 2, 1) := by decide +kernel
