theorem dr_0_0 : decode cr_0 0 = .ok (.aload_n 0, 1) := by decide +kernel
theorem dr_0_1 : decode cr_0 1 = .ok (.getfield 75, 3) := by decide +kernel
theorem dr_0_4 : decode cr_0 4 = .ok (.ireturn, 1) := by decide +kernel
theorem dr_1_0 : decode cr_1 0 = .ok (.aload_n 0, 1) := by decide +kernel
theorem dr_1_1 : decode cr_1 1 = .ok (.iload_n 1, 1) := by decide +kernel
theorem dr_1_2 : decode cr_1 2 = .ok (.putfield 75, 3) := by decide +kernel
theorem dr_1_5 : decode cr_1 5 = .ok (.iconst 0, 1) := by decide +kernel
theorem dr_1_6 : decode cr_1 6 = .ok (.ireturn, 1) := by decide +kernel
theorem dr_2_0 : decode cr_2 0 = .ok (.aload_n 0, 1) := by decide +kernel
theorem dr_2_1 : decode cr_2 1 = .ok (.iconst 0, 1) := by decide +kernel
theorem dr_2_2 : decode cr_2 2 = .ok (.putfield 75, 3) := by decide +kernel
theorem dr_2_5 : decode cr_2 5 = .ok (.iload_n 3, 1) := by decide +kernel
theorem dr_2_6 : decode cr_2 6 = .ok (.ifCond .le (25), 3) := by decide +kernel
theorem dr_2_9 : decode cr_2 9 = .ok (.iload_n 3, 1) := by decide +kernel
theorem dr_2_10 : decode cr_2 10 = .ok (.bipush 9, 2) := by decide +kernel
theorem dr_2_12 : decode cr_2 12 = .ok (.if_icmp .ge (19), 3) := by decide +kernel
theorem dr_2_15 : decode cr_2 15 = .ok (.aload_n 0, 1) := by decide +kernel
theorem dr_2_16 : decode cr_2 16 = .ok (.getfield 78, 3) := by decide +kernel
theorem dr_2_19 : decode cr_2 19 = .ok (.iload_n 3, 1) := by decide +kernel
theorem dr_2_20 : decode cr_2 20 = .ok (.iadd, 1) := by decide +kernel
theorem dr_2_21 : decode cr_2 21 = .ok (.sipush 160, 3) := by decide +kernel
theorem dr_2_24 : decode cr_2 24 = .ok (.if_icmp .gt (7), 3) := by decide +kernel
theorem dr_2_27 : decode cr_2 27 = .ok (.iconst 1, 1) := by decide +kernel
theorem dr_2_28 : decode cr_2 28 = .ok (.goto (4), 3) := by decide +kernel
theorem dr_2_31 : decode cr_2 31 = .ok (.iconst 0, 1) := by decide +kernel
theorem dr_2_32 : decode cr_2 32 = .ok (.istore 4, 2) := by decide +kernel
theorem dr_2_34 : decode cr_2 34 = .ok (.iconst 0, 1) := by decide +kernel
theorem dr_2_35 : decode cr_2 35 = .ok (.istore 5, 2) := by decide +kernel
theorem dr_2_37 : decode cr_2 37 = .ok (.iload 5, 2) := by decide +kernel
theorem dr_2_39 : decode cr_2 39 = .ok (.iload_n 3, 1) := by decide +kernel
theorem dr_2_40 : decode cr_2 40 = .ok (.if_icmp .ge (56), 3) := by decide +kernel
theorem dr_2_43 : decode cr_2 43 = .ok (.iload 4, 2) := by decide +kernel
theorem dr_2_45 : decode cr_2 45 = .ok (.ifCond .eq (51), 3) := by decide +kernel
theorem dr_2_48 : decode cr_2 48 = .ok (.lload_n 1, 1) := by decide +kernel
theorem dr_2_49 : decode cr_2 49 = .ok (.bipush 8, 2) := by decide +kernel
theorem dr_2_51 : decode cr_2 51 = .ok (.iload 5, 2) := by decide +kernel
theorem dr_2_53 : decode cr_2 53 = .ok (.imul, 1) := by decide +kernel
theorem dr_2_54 : decode cr_2 54 = .ok (.lshr, 1) := by decide +kernel
theorem dr_2_55 : decode cr_2 55 = .ok (.ldc2_w 81, 3) := by decide +kernel
theorem dr_2_58 : decode cr_2 58 = .ok (.land, 1) := by decide +kernel
theorem dr_2_59 : decode cr_2 59 = .ok (.l2i, 1) := by decide +kernel
theorem dr_2_60 : decode cr_2 60 = .ok (.istore 6, 2) := by decide +kernel
theorem dr_2_62 : decode cr_2 62 = .ok (.iload 6, 2) := by decide +kernel
theorem dr_2_64 : decode cr_2 64 = .ok (.bipush 10, 2) := by decide +kernel
theorem dr_2_66 : decode cr_2 66 = .ok (.if_icmp .eq (17), 3) := by decide +kernel
theorem dr_2_69 : decode cr_2 69 = .ok (.iload 6, 2) := by decide +kernel
theorem dr_2_71 : decode cr_2 71 = .ok (.bipush 32, 2) := by decide +kernel
theorem dr_2_73 : decode cr_2 73 = .ok (.if_icmp .lt (14), 3) := by decide +kernel
theorem dr_2_76 : decode cr_2 76 = .ok (.iload 6, 2) := by decide +kernel
theorem dr_2_78 : decode cr_2 78 = .ok (.bipush 126, 2) := by decide +kernel
theorem dr_2_80 : decode cr_2 80 = .ok (.if_icmp .gt (7), 3) := by decide +kernel
theorem dr_2_83 : decode cr_2 83 = .ok (.iconst 1, 1) := by decide +kernel
theorem dr_2_84 : decode cr_2 84 = .ok (.goto (4), 3) := by decide +kernel
theorem dr_2_87 : decode cr_2 87 = .ok (.iconst 0, 1) := by decide +kernel
theorem dr_2_88 : decode cr_2 88 = .ok (.istore 4, 2) := by decide +kernel
theorem dr_2_90 : decode cr_2 90 = .ok (.iinc 5 1, 3) := by decide +kernel
theorem dr_2_93 : decode cr_2 93 = .ok (.goto (-56), 3) := by decide +kernel
theorem dr_2_96 : decode cr_2 96 = .ok (.iconst 0, 1) := by decide +kernel
theorem dr_2_97 : decode cr_2 97 = .ok (.istore 5, 2) := by decide +kernel
theorem dr_2_99 : decode cr_2 99 = .ok (.iload 5, 2) := by decide +kernel
theorem dr_2_101 : decode cr_2 101 = .ok (.iload_n 3, 1) := by decide +kernel
theorem dr_2_102 : decode cr_2 102 = .ok (.if_icmp .ge (45), 3) := by decide +kernel
theorem dr_2_105 : decode cr_2 105 = .ok (.iload 4, 2) := by decide +kernel
theorem dr_2_107 : decode cr_2 107 = .ok (.ifCond .eq (40), 3) := by decide +kernel
theorem dr_2_110 : decode cr_2 110 = .ok (.aload_n 0, 1) := by decide +kernel
theorem dr_2_111 : decode cr_2 111 = .ok (.getfield 7, 3) := by decide +kernel
theorem dr_2_114 : decode cr_2 114 = .ok (.aload_n 0, 1) := by decide +kernel
theorem dr_2_115 : decode cr_2 115 = .ok (.getfield 78, 3) := by decide +kernel
theorem dr_2_118 : decode cr_2 118 = .ok (.lload_n 1, 1) := by decide +kernel
theorem dr_2_119 : decode cr_2 119 = .ok (.bipush 8, 2) := by decide +kernel
theorem dr_2_121 : decode cr_2 121 = .ok (.iload 5, 2) := by decide +kernel
theorem dr_2_123 : decode cr_2 123 = .ok (.imul, 1) := by decide +kernel
theorem dr_2_124 : decode cr_2 124 = .ok (.lshr, 1) := by decide +kernel
theorem dr_2_125 : decode cr_2 125 = .ok (.ldc2_w 81, 3) := by decide +kernel
theorem dr_2_128 : decode cr_2 128 = .ok (.land, 1) := by decide +kernel
theorem dr_2_129 : decode cr_2 129 = .ok (.l2i, 1) := by decide +kernel
theorem dr_2_130 : decode cr_2 130 = .ok (.iastore, 1) := by decide +kernel
theorem dr_2_131 : decode cr_2 131 = .ok (.aload_n 0, 1) := by decide +kernel
theorem dr_2_132 : decode cr_2 132 = .ok (.dup, 1) := by decide +kernel
theorem dr_2_133 : decode cr_2 133 = .ok (.getfield 78, 3) := by decide +kernel
theorem dr_2_136 : decode cr_2 136 = .ok (.iconst 1, 1) := by decide +kernel
theorem dr_2_137 : decode cr_2 137 = .ok (.iadd, 1) := by decide +kernel
theorem dr_2_138 : decode cr_2 138 = .ok (.putfield 78, 3) := by decide +kernel
theorem dr_2_141 : decode cr_2 141 = .ok (.iinc 5 1, 3) := by decide +kernel
theorem dr_2_144 : decode cr_2 144 = .ok (.goto (-45), 3) := by decide +kernel
theorem dr_2_147 : decode cr_2 147 = .ok (.iload 4, 2) := by decide +kernel
theorem dr_2_149 : decode cr_2 149 = .ok (.ireturn, 1) := by decide +kernel
theorem dr_3_0 : decode cr_3 0 = .ok (.aload_n 0, 1) := by decide +kernel
theorem dr_3_1 : decode cr_3 1 = .ok (.iconst 0, 1) := by decide +kernel
theorem dr_3_2 : decode cr_3 2 = .ok (.putfield 75, 3) := by decide +kernel
theorem dr_3_5 : decode cr_3 5 = .ok (.iload_n 1, 1) := by decide +kernel
theorem dr_3_6 : decode cr_3 6 = .ok (.ifCond .lt (11), 3) := by decide +kernel
theorem dr_3_9 : decode cr_3 9 = .ok (.iload_n 1, 1) := by decide +kernel
theorem dr_3_10 : decode cr_3 10 = .ok (.aload_n 0, 1) := by decide +kernel
theorem dr_3_11 : decode cr_3 11 = .ok (.getfield 78, 3) := by decide +kernel
theorem dr_3_14 : decode cr_3 14 = .ok (.if_icmp .le (5), 3) := by decide +kernel
theorem dr_3_17 : decode cr_3 17 = .ok (.iconst 0, 1) := by decide +kernel
theorem dr_3_18 : decode cr_3 18 = .ok (.ireturn, 1) := by decide +kernel
theorem dr_3_19 : decode cr_3 19 = .ok (.aload_n 0, 1) := by decide +kernel
theorem dr_3_20 : decode cr_3 20 = .ok (.iload_n 1, 1) := by decide +kernel
theorem dr_3_21 : decode cr_3 21 = .ok (.putfield 78, 3) := by decide +kernel
theorem dr_3_24 : decode cr_3 24 = .ok (.iconst 1, 1) := by decide +kernel
theorem dr_3_25 : decode cr_3 25 = .ok (.ireturn, 1) := by decide +kernel
theorem dr_4_0 : decode cr_4 0 = .ok (.iload_n 0, 1) := by decide +kernel
theorem dr_4_1 : decode cr_4 1 = .ok (.bipush 97, 2) := by decide +kernel
theorem dr_4_3 : decode cr_4 3 = .ok (.if_icmp .lt (13), 3) := by decide +kernel
theorem dr_4_6 : decode cr_4 6 = .ok (.iload_n 0, 1) := by decide +kernel
theorem dr_4_7 : decode cr_4 7 = .ok (.bipush 122, 2) := by decide +kernel
theorem dr_4_9 : decode cr_4 9 = .ok (.if_icmp .gt (7), 3) := by decide +kernel
theorem dr_4_12 : decode cr_4 12 = .ok (.iconst 1, 1) := by decide +kernel
theorem dr_4_13 : decode cr_4 13 = .ok (.goto (4), 3) := by decide +kernel
theorem dr_4_16 : decode cr_4 16 = .ok (.iconst 0, 1) := by decide +kernel
theorem dr_4_17 : decode cr_4 17 = .ok (.ireturn, 1) := by decide +kernel
theorem dr_5_0 : decode cr_5 0 = .ok (.iload_n 0, 1) := by decide +kernel
theorem dr_5_1 : decode cr_5 1 = .ok (.bipush 48, 2) := by decide +kernel
theorem dr_5_3 : decode cr_5 3 = .ok (.if_icmp .lt (13), 3) := by decide +kernel
theorem dr_5_6 : decode cr_5 6 = .ok (.iload_n 0, 1) := by decide +kernel
theorem dr_5_7 : decode cr_5 7 = .ok (.bipush 57, 2) := by decide +kernel
theorem dr_5_9 : decode cr_5 9 = .ok (.if_icmp .gt (7), 3) := by decide +kernel
theorem dr_5_12 : decode cr_5 12 = .ok (.iconst 1, 1) := by decide +kernel
theorem dr_5_13 : decode cr_5 13 = .ok (.goto (4), 3) := by decide +kernel
theorem dr_5_16 : decode cr_5 16 = .ok (.iconst 0, 1) := by decide +kernel
theorem dr_5_17 : decode cr_5 17 = .ok (.ireturn, 1) := by decide +kernel
theorem dr_6_0 : decode cr_6 0 = .ok (.iload_n 0, 1) := by decide +kernel
theorem dr_6_1 : decode cr_6 1 = .ok (.bipush 40, 2) := by decide +kernel
theorem dr_6_3 : decode cr_6 3 = .ok (.if_icmp .lt (9), 3) := by decide +kernel
theorem dr_6_6 : decode cr_6 6 = .ok (.iload_n 0, 1) := by decide +kernel
theorem dr_6_7 : decode cr_6 7 = .ok (.bipush 45, 2) := by decide +kernel
theorem dr_6_9 : decode cr_6 9 = .ok (.if_icmp .le (63), 3) := by decide +kernel
theorem dr_6_12 : decode cr_6 12 = .ok (.iload_n 0, 1) := by decide +kernel
theorem dr_6_13 : decode cr_6 13 = .ok (.bipush 47, 2) := by decide +kernel
theorem dr_6_15 : decode cr_6 15 = .ok (.if_icmp .eq (57), 3) := by decide +kernel
theorem dr_6_18 : decode cr_6 18 = .ok (.iload_n 0, 1) := by decide +kernel
theorem dr_6_19 : decode cr_6 19 = .ok (.bipush 91, 2) := by decide +kernel
theorem dr_6_21 : decode cr_6 21 = .ok (.if_icmp .eq (51), 3) := by decide +kernel
theorem dr_6_24 : decode cr_6 24 = .ok (.iload_n 0, 1) := by decide +kernel
theorem dr_6_25 : decode cr_6 25 = .ok (.bipush 93, 2) := by decide +kernel
theorem dr_6_27 : decode cr_6 27 = .ok (.if_icmp .eq (45), 3) := by decide +kernel
theorem dr_6_30 : decode cr_6 30 = .ok (.iload_n 0, 1) := by decide +kernel
theorem dr_6_31 : decode cr_6 31 = .ok (.bipush 123, 2) := by decide +kernel
theorem dr_6_33 : decode cr_6 33 = .ok (.if_icmp .eq (39), 3) := by decide +kernel
theorem dr_6_36 : decode cr_6 36 = .ok (.iload_n 0, 1) := by decide +kernel
theorem dr_6_37 : decode cr_6 37 = .ok (.bipush 125, 2) := by decide +kernel
theorem dr_6_39 : decode cr_6 39 = .ok (.if_icmp .eq (33), 3) := by decide +kernel
theorem dr_6_42 : decode cr_6 42 = .ok (.iload_n 0, 1) := by decide +kernel
theorem dr_6_43 : decode cr_6 43 = .ok (.bipush 59, 2) := by decide +kernel
theorem dr_6_45 : decode cr_6 45 = .ok (.if_icmp .eq (27), 3) := by decide +kernel
theorem dr_6_48 : decode cr_6 48 = .ok (.iload_n 0, 1) := by decide +kernel
theorem dr_6_49 : decode cr_6 49 = .ok (.bipush 61, 2) := by decide +kernel
theorem dr_6_51 : decode cr_6 51 = .ok (.if_icmp .eq (21), 3) := by decide +kernel
theorem dr_6_54 : decode cr_6 54 = .ok (.iload_n 0, 1) := by decide +kernel
theorem dr_6_55 : decode cr_6 55 = .ok (.bipush 60, 2) := by decide +kernel
theorem dr_6_57 : decode cr_6 57 = .ok (.if_icmp .eq (15), 3) := by decide +kernel
theorem dr_6_60 : decode cr_6 60 = .ok (.iload_n 0, 1) := by decide +kernel
theorem dr_6_61 : decode cr_6 61 = .ok (.bipush 38, 2) := by decide +kernel
theorem dr_6_63 : decode cr_6 63 = .ok (.if_icmp .eq (9), 3) := by decide +kernel
theorem dr_6_66 : decode cr_6 66 = .ok (.iload_n 0, 1) := by decide +kernel
theorem dr_6_67 : decode cr_6 67 = .ok (.bipush 33, 2) := by decide +kernel
theorem dr_6_69 : decode cr_6 69 = .ok (.if_icmp .ne (7), 3) := by decide +kernel
theorem dr_6_72 : decode cr_6 72 = .ok (.iconst 1, 1) := by decide +kernel
theorem dr_6_73 : decode cr_6 73 = .ok (.goto (4), 3) := by decide +kernel
theorem dr_6_76 : decode cr_6 76 = .ok (.iconst 0, 1) := by decide +kernel
theorem dr_6_77 : decode cr_6 77 = .ok (.ireturn, 1) := by decide +kernel
theorem dr_7_0 : decode cr_7 0 = .ok (.lconst 0, 1) := by decide +kernel
theorem dr_7_1 : decode cr_7 1 = .ok (.lstore_n 3, 1) := by decide +kernel
theorem dr_7_2 : decode cr_7 2 = .ok (.iload_n 2, 1) := by decide +kernel
theorem dr_7_3 : decode cr_7 3 = .ok (.iconst 1, 1) := by decide +kernel
theorem dr_7_4 : decode cr_7 4 = .ok (.isub, 1) := by decide +kernel
theorem dr_7_5 : decode cr_7 5 = .ok (.istore 5, 2) := by decide +kernel
theorem dr_7_7 : decode cr_7 7 = .ok (.iload 5, 2) := by decide +kernel
theorem dr_7_9 : decode cr_7 9 = .ok (.ifCond .lt (25), 3) := by decide +kernel
theorem dr_7_12 : decode cr_7 12 = .ok (.lload_n 3, 1) := by decide +kernel
theorem dr_7_13 : decode cr_7 13 = .ok (.bipush 8, 2) := by decide +kernel
theorem dr_7_15 : decode cr_7 15 = .ok (.lshl, 1) := by decide +kernel
theorem dr_7_16 : decode cr_7 16 = .ok (.aload_n 0, 1) := by decide +kernel
theorem dr_7_17 : decode cr_7 17 = .ok (.getfield 7, 3) := by decide +kernel
theorem dr_7_20 : decode cr_7 20 = .ok (.iload_n 1, 1) := by decide +kernel
theorem dr_7_21 : decode cr_7 21 = .ok (.iload 5, 2) := by decide +kernel
theorem dr_7_23 : decode cr_7 23 = .ok (.iadd, 1) := by decide +kernel
theorem dr_7_24 : decode cr_7 24 = .ok (.iaload, 1) := by decide +kernel
theorem dr_7_25 : decode cr_7 25 = .ok (.i2l, 1) := by decide +kernel
theorem dr_7_26 : decode cr_7 26 = .ok (.lor, 1) := by decide +kernel
theorem dr_7_27 : decode cr_7 27 = .ok (.lstore_n 3, 1) := by decide +kernel
theorem dr_7_28 : decode cr_7 28 = .ok (.iinc 5 (-1), 3) := by decide +kernel
theorem dr_7_31 : decode cr_7 31 = .ok (.goto (-24), 3) := by decide +kernel
theorem dr_7_34 : decode cr_7 34 = .ok (.lload_n 3, 1) := by decide +kernel
theorem dr_7_35 : decode cr_7 35 = .ok (.lreturn, 1) := by decide +kernel
theorem dr_8_0 : decode cr_8 0 = .ok (.lload_n 0, 1) := by decide +kernel
theorem dr_8_1 : decode cr_8 1 = .ok (.ldc2_w 83, 3) := by decide +kernel
theorem dr_8_4 : decode cr_8 4 = .ok (.lcmp, 1) := by decide +kernel
theorem dr_8_5 : decode cr_8 5 = .ok (.ifCond .ne (7), 3) := by decide +kernel
theorem dr_8_8 : decode cr_8 8 = .ok (.iconst 4, 1) := by decide +kernel
theorem dr_8_9 : decode cr_8 9 = .ok (.goto (107), 3) := by decide +kernel
theorem dr_8_12 : decode cr_8 12 = .ok (.lload_n 0, 1) := by decide +kernel
theorem dr_8_13 : decode cr_8 13 = .ok (.ldc2_w 85, 3) := by decide +kernel
theorem dr_8_16 : decode cr_8 16 = .ok (.lcmp, 1) := by decide +kernel
theorem dr_8_17 : decode cr_8 17 = .ok (.ifCond .ne (7), 3) := by decide +kernel
theorem dr_8_20 : decode cr_8 20 = .ok (.iconst 5, 1) := by decide +kernel
theorem dr_8_21 : decode cr_8 21 = .ok (.goto (95), 3) := by decide +kernel
theorem dr_8_24 : decode cr_8 24 = .ok (.lload_n 0, 1) := by decide +kernel
theorem dr_8_25 : decode cr_8 25 = .ok (.ldc2_w 87, 3) := by decide +kernel
theorem dr_8_28 : decode cr_8 28 = .ok (.lcmp, 1) := by decide +kernel
theorem dr_8_29 : decode cr_8 29 = .ok (.ifCond .ne (8), 3) := by decide +kernel
theorem dr_8_32 : decode cr_8 32 = .ok (.bipush 6, 2) := by decide +kernel
theorem dr_8_34 : decode cr_8 34 = .ok (.goto (82), 3) := by decide +kernel
theorem dr_8_37 : decode cr_8 37 = .ok (.lload_n 0, 1) := by decide +kernel
theorem dr_8_38 : decode cr_8 38 = .ok (.ldc2_w 89, 3) := by decide +kernel
theorem dr_8_41 : decode cr_8 41 = .ok (.lcmp, 1) := by decide +kernel
theorem dr_8_42 : decode cr_8 42 = .ok (.ifCond .ne (8), 3) := by decide +kernel
theorem dr_8_45 : decode cr_8 45 = .ok (.bipush 7, 2) := by decide +kernel
theorem dr_8_47 : decode cr_8 47 = .ok (.goto (69), 3) := by decide +kernel
theorem dr_8_50 : decode cr_8 50 = .ok (.lload_n 0, 1) := by decide +kernel
theorem dr_8_51 : decode cr_8 51 = .ok (.ldc2_w 91, 3) := by decide +kernel
theorem dr_8_54 : decode cr_8 54 = .ok (.lcmp, 1) := by decide +kernel
theorem dr_8_55 : decode cr_8 55 = .ok (.ifCond .ne (8), 3) := by decide +kernel
theorem dr_8_58 : decode cr_8 58 = .ok (.bipush 8, 2) := by decide +kernel
theorem dr_8_60 : decode cr_8 60 = .ok (.goto (56), 3) := by decide +kernel
theorem dr_8_63 : decode cr_8 63 = .ok (.lload_n 0, 1) := by decide +kernel
theorem dr_8_64 : decode cr_8 64 = .ok (.ldc2_w 93, 3) := by decide +kernel
theorem dr_8_67 : decode cr_8 67 = .ok (.lcmp, 1) := by decide +kernel
theorem dr_8_68 : decode cr_8 68 = .ok (.ifCond .ne (8), 3) := by decide +kernel
theorem dr_8_71 : decode cr_8 71 = .ok (.bipush 9, 2) := by decide +kernel
theorem dr_8_73 : decode cr_8 73 = .ok (.goto (43), 3) := by decide +kernel
theorem dr_8_76 : decode cr_8 76 = .ok (.lload_n 0, 1) := by decide +kernel
theorem dr_8_77 : decode cr_8 77 = .ok (.ldc2_w 95, 3) := by decide +kernel
theorem dr_8_80 : decode cr_8 80 = .ok (.lcmp, 1) := by decide +kernel
theorem dr_8_81 : decode cr_8 81 = .ok (.ifCond .ne (8), 3) := by decide +kernel
theorem dr_8_84 : decode cr_8 84 = .ok (.bipush 10, 2) := by decide +kernel
theorem dr_8_86 : decode cr_8 86 = .ok (.goto (30), 3) := by decide +kernel
theorem dr_8_89 : decode cr_8 89 = .ok (.lload_n 0, 1) := by decide +kernel
theorem dr_8_90 : decode cr_8 90 = .ok (.ldc2_w 97, 3) := by decide +kernel
theorem dr_8_93 : decode cr_8 93 = .ok (.lcmp, 1) := by decide +kernel
theorem dr_8_94 : decode cr_8 94 = .ok (.ifCond .ne (8), 3) := by decide +kernel
theorem dr_8_97 : decode cr_8 97 = .ok (.bipush 11, 2) := by decide +kernel
theorem dr_8_99 : decode cr_8 99 = .ok (.goto (17), 3) := by decide +kernel
theorem dr_8_102 : decode cr_8 102 = .ok (.lload_n 0, 1) := by decide +kernel
theorem dr_8_103 : decode cr_8 103 = .ok (.ldc2_w 99, 3) := by decide +kernel
theorem dr_8_106 : decode cr_8 106 = .ok (.lcmp, 1) := by decide +kernel
theorem dr_8_107 : decode cr_8 107 = .ok (.ifCond .ne (8), 3) := by decide +kernel
theorem dr_8_110 : decode cr_8 110 = .ok (.bipush 12, 2) := by decide +kernel
theorem dr_8_112 : decode cr_8 112 = .ok (.goto (4), 3) := by decide +kernel
theorem dr_8_115 : decode cr_8 115 = .ok (.iconst 1, 1) := by decide +kernel
theorem dr_8_116 : decode cr_8 116 = .ok (.ireturn, 1) := by decide +kernel
theorem dr_9_0 : decode cr_9 0 = .ok (.aload_n 0, 1) := by decide +kernel
theorem dr_9_1 : decode cr_9 1 = .ok (.getfield 13, 3) := by decide +kernel
theorem dr_9_4 : decode cr_9 4 = .ok (.aload_n 0, 1) := by decide +kernel
theorem dr_9_5 : decode cr_9 5 = .ok (.getfield 101, 3) := by decide +kernel
theorem dr_9_8 : decode cr_9 8 = .ok (.iload_n 1, 1) := by decide +kernel
theorem dr_9_9 : decode cr_9 9 = .ok (.iastore, 1) := by decide +kernel
theorem dr_9_10 : decode cr_9 10 = .ok (.aload_n 0, 1) := by decide +kernel
theorem dr_9_11 : decode cr_9 11 = .ok (.getfield 16, 3) := by decide +kernel
theorem dr_9_14 : decode cr_9 14 = .ok (.aload_n 0, 1) := by decide +kernel
theorem dr_9_15 : decode cr_9 15 = .ok (.getfield 101, 3) := by decide +kernel
theorem dr_9_18 : decode cr_9 18 = .ok (.iload_n 2, 1) := by decide +kernel
theorem dr_9_19 : decode cr_9 19 = .ok (.iastore, 1) := by decide +kernel
theorem dr_9_20 : decode cr_9 20 = .ok (.aload_n 0, 1) := by decide +kernel
theorem dr_9_21 : decode cr_9 21 = .ok (.getfield 19, 3) := by decide +kernel
theorem dr_9_24 : decode cr_9 24 = .ok (.aload_n 0, 1) := by decide +kernel
theorem dr_9_25 : decode cr_9 25 = .ok (.getfield 101, 3) := by decide +kernel
theorem dr_9_28 : decode cr_9 28 = .ok (.iload_n 3, 1) := by decide +kernel
theorem dr_9_29 : decode cr_9 29 = .ok (.iastore, 1) := by decide +kernel
theorem dr_9_30 : decode cr_9 30 = .ok (.aload_n 0, 1) := by decide +kernel
theorem dr_9_31 : decode cr_9 31 = .ok (.getfield 22, 3) := by decide +kernel
theorem dr_9_34 : decode cr_9 34 = .ok (.aload_n 0, 1) := by decide +kernel
theorem dr_9_35 : decode cr_9 35 = .ok (.getfield 101, 3) := by decide +kernel
theorem dr_9_38 : decode cr_9 38 = .ok (.iconst 0, 1) := by decide +kernel
theorem dr_9_39 : decode cr_9 39 = .ok (.iastore, 1) := by decide +kernel
theorem dr_9_40 : decode cr_9 40 = .ok (.aload_n 0, 1) := by decide +kernel
theorem dr_9_41 : decode cr_9 41 = .ok (.getfield 25, 3) := by decide +kernel
theorem dr_9_44 : decode cr_9 44 = .ok (.aload_n 0, 1) := by decide +kernel
theorem dr_9_45 : decode cr_9 45 = .ok (.getfield 101, 3) := by decide +kernel
theorem dr_9_48 : decode cr_9 48 = .ok (.iconst (-1), 1) := by decide +kernel
theorem dr_9_49 : decode cr_9 49 = .ok (.iastore, 1) := by decide +kernel
theorem dr_9_50 : decode cr_9 50 = .ok (.aload_n 0, 1) := by decide +kernel
theorem dr_9_51 : decode cr_9 51 = .ok (.dup, 1) := by decide +kernel
theorem dr_9_52 : decode cr_9 52 = .ok (.getfield 101, 3) := by decide +kernel
theorem dr_9_55 : decode cr_9 55 = .ok (.iconst 1, 1) := by decide +kernel
theorem dr_9_56 : decode cr_9 56 = .ok (.iadd, 1) := by decide +kernel
theorem dr_9_57 : decode cr_9 57 = .ok (.putfield 101, 3) := by decide +kernel
theorem dr_9_60 : decode cr_9 60 = .ok (.return_, 1) := by decide +kernel
theorem dr_10_0 : decode cr_10 0 = .ok (.aload_n 0, 1) := by decide +kernel
theorem dr_10_1 : decode cr_10 1 = .ok (.iconst 0, 1) := by decide +kernel
theorem dr_10_2 : decode cr_10 2 = .ok (.putfield 101, 3) := by decide +kernel
theorem dr_10_5 : decode cr_10 5 = .ok (.iconst 0, 1) := by decide +kernel
theorem dr_10_6 : decode cr_10 6 = .ok (.istore_n 1, 1) := by decide +kernel
theorem dr_10_7 : decode cr_10 7 = .ok (.iload_n 1, 1) := by decide +kernel
theorem dr_10_8 : decode cr_10 8 = .ok (.aload_n 0, 1) := by decide +kernel
theorem dr_10_9 : decode cr_10 9 = .ok (.getfield 78, 3) := by decide +kernel
theorem dr_10_12 : decode cr_10 12 = .ok (.if_icmp .ge (262), 3) := by decide +kernel
theorem dr_10_15 : decode cr_10 15 = .ok (.iload_n 1, 1) := by decide +kernel
theorem dr_10_16 : decode cr_10 16 = .ok (.istore_n 2, 1) := by decide +kernel
theorem dr_10_17 : decode cr_10 17 = .ok (.aload_n 0, 1) := by decide +kernel
theorem dr_10_18 : decode cr_10 18 = .ok (.getfield 7, 3) := by decide +kernel
theorem dr_10_21 : decode cr_10 21 = .ok (.iload_n 1, 1) := by decide +kernel
theorem dr_10_22 : decode cr_10 22 = .ok (.iaload, 1) := by decide +kernel
theorem dr_10_23 : decode cr_10 23 = .ok (.istore_n 3, 1) := by decide +kernel
theorem dr_10_24 : decode cr_10 24 = .ok (.iinc 1 1, 3) := by decide +kernel
theorem dr_10_27 : decode cr_10 27 = .ok (.iload_n 3, 1) := by decide +kernel
theorem dr_10_28 : decode cr_10 28 = .ok (.invokestatic 104, 3) := by decide +kernel
theorem dr_10_31 : decode cr_10 31 = .ok (.ifCond .eq (121), 3) := by decide +kernel
theorem dr_10_34 : decode cr_10 34 = .ok (.iload_n 1, 1) := by decide +kernel
theorem dr_10_35 : decode cr_10 35 = .ok (.aload_n 0, 1) := by decide +kernel
theorem dr_10_36 : decode cr_10 36 = .ok (.getfield 78, 3) := by decide +kernel
theorem dr_10_39 : decode cr_10 39 = .ok (.if_icmp .ge (41), 3) := by decide +kernel
theorem dr_10_42 : decode cr_10 42 = .ok (.iload_n 1, 1) := by decide +kernel
theorem dr_10_43 : decode cr_10 43 = .ok (.iload_n 2, 1) := by decide +kernel
theorem dr_10_44 : decode cr_10 44 = .ok (.isub, 1) := by decide +kernel
theorem dr_10_45 : decode cr_10 45 = .ok (.bipush 8, 2) := by decide +kernel
theorem dr_10_47 : decode cr_10 47 = .ok (.if_icmp .ge (33), 3) := by decide +kernel
theorem dr_10_50 : decode cr_10 50 = .ok (.aload_n 0, 1) := by decide +kernel
theorem dr_10_51 : decode cr_10 51 = .ok (.getfield 7, 3) := by decide +kernel
theorem dr_10_54 : decode cr_10 54 = .ok (.iload_n 1, 1) := by decide +kernel
theorem dr_10_55 : decode cr_10 55 = .ok (.iaload, 1) := by decide +kernel
theorem dr_10_56 : decode cr_10 56 = .ok (.invokestatic 104, 3) := by decide +kernel
theorem dr_10_59 : decode cr_10 59 = .ok (.ifCond .ne (15), 3) := by decide +kernel
theorem dr_10_62 : decode cr_10 62 = .ok (.aload_n 0, 1) := by decide +kernel
theorem dr_10_63 : decode cr_10 63 = .ok (.getfield 7, 3) := by decide +kernel
theorem dr_10_66 : decode cr_10 66 = .ok (.iload_n 1, 1) := by decide +kernel
theorem dr_10_67 : decode cr_10 67 = .ok (.iaload, 1) := by decide +kernel
theorem dr_10_68 : decode cr_10 68 = .ok (.invokestatic 108, 3) := by decide +kernel
theorem dr_10_71 : decode cr_10 71 = .ok (.ifCond .eq (9), 3) := by decide +kernel
theorem dr_10_74 : decode cr_10 74 = .ok (.iinc 1 1, 3) := by decide +kernel
theorem dr_10_77 : decode cr_10 77 = .ok (.goto (-43), 3) := by decide +kernel
theorem dr_10_80 : decode cr_10 80 = .ok (.aload_n 0, 1) := by decide +kernel
theorem dr_10_81 : decode cr_10 81 = .ok (.aload_n 0, 1) := by decide +kernel
theorem dr_10_82 : decode cr_10 82 = .ok (.iload_n 2, 1) := by decide +kernel
theorem dr_10_83 : decode cr_10 83 = .ok (.iload_n 1, 1) := by decide +kernel
theorem dr_10_84 : decode cr_10 84 = .ok (.iload_n 2, 1) := by decide +kernel
theorem dr_10_85 : decode cr_10 85 = .ok (.isub, 1) := by decide +kernel
theorem dr_10_86 : decode cr_10 86 = .ok (.invokevirtual 111, 3) := by decide +kernel
theorem dr_10_89 : decode cr_10 89 = .ok (.invokestatic 115, 3) := by decide +kernel
theorem dr_10_92 : decode cr_10 92 = .ok (.iload_n 2, 1) := by decide +kernel
theorem dr_10_93 : decode cr_10 93 = .ok (.iload_n 1, 1) := by decide +kernel
theorem dr_10_94 : decode cr_10 94 = .ok (.iload_n 2, 1) := by decide +kernel
theorem dr_10_95 : decode cr_10 95 = .ok (.isub, 1) := by decide +kernel
theorem dr_10_96 : decode cr_10 96 = .ok (.invokevirtual 119, 3) := by decide +kernel
theorem dr_10_99 : decode cr_10 99 = .ok (.iload_n 1, 1) := by decide +kernel
theorem dr_10_100 : decode cr_10 100 = .ok (.aload_n 0, 1) := by decide +kernel
theorem dr_10_101 : decode cr_10 101 = .ok (.getfield 78, 3) := by decide +kernel
theorem dr_10_104 : decode cr_10 104 = .ok (.if_icmp .ge (167), 3) := by decide +kernel
theorem dr_10_107 : decode cr_10 107 = .ok (.iload_n 1, 1) := by decide +kernel
theorem dr_10_108 : decode cr_10 108 = .ok (.iload_n 2, 1) := by decide +kernel
theorem dr_10_109 : decode cr_10 109 = .ok (.isub, 1) := by decide +kernel
theorem dr_10_110 : decode cr_10 110 = .ok (.bipush 8, 2) := by decide +kernel
theorem dr_10_112 : decode cr_10 112 = .ok (.if_icmp .ne (159), 3) := by decide +kernel
theorem dr_10_115 : decode cr_10 115 = .ok (.aload_n 0, 1) := by decide +kernel
theorem dr_10_116 : decode cr_10 116 = .ok (.getfield 7, 3) := by decide +kernel
theorem dr_10_119 : decode cr_10 119 = .ok (.iload_n 1, 1) := by decide +kernel
theorem dr_10_120 : decode cr_10 120 = .ok (.iaload, 1) := by decide +kernel
theorem dr_10_121 : decode cr_10 121 = .ok (.invokestatic 104, 3) := by decide +kernel
theorem dr_10_124 : decode cr_10 124 = .ok (.ifCond .ne (15), 3) := by decide +kernel
theorem dr_10_127 : decode cr_10 127 = .ok (.aload_n 0, 1) := by decide +kernel
theorem dr_10_128 : decode cr_10 128 = .ok (.getfield 7, 3) := by decide +kernel
theorem dr_10_131 : decode cr_10 131 = .ok (.iload_n 1, 1) := by decide +kernel
theorem dr_10_132 : decode cr_10 132 = .ok (.iaload, 1) := by decide +kernel
theorem dr_10_133 : decode cr_10 133 = .ok (.invokestatic 108, 3) := by decide +kernel
theorem dr_10_136 : decode cr_10 136 = .ok (.ifCond .eq (135), 3) := by decide +kernel
theorem dr_10_139 : decode cr_10 139 = .ok (.aload_n 0, 1) := by decide +kernel
theorem dr_10_140 : decode cr_10 140 = .ok (.iconst 3, 1) := by decide +kernel
theorem dr_10_141 : decode cr_10 141 = .ok (.iload_n 1, 1) := by decide +kernel
theorem dr_10_142 : decode cr_10 142 = .ok (.iconst 1, 1) := by decide +kernel
theorem dr_10_143 : decode cr_10 143 = .ok (.invokevirtual 119, 3) := by decide +kernel
theorem dr_10_146 : decode cr_10 146 = .ok (.iinc 1 1, 3) := by decide +kernel
theorem dr_10_149 : decode cr_10 149 = .ok (.goto (122), 3) := by decide +kernel
theorem dr_10_152 : decode cr_10 152 = .ok (.iload_n 3, 1) := by decide +kernel
theorem dr_10_153 : decode cr_10 153 = .ok (.invokestatic 108, 3) := by decide +kernel
theorem dr_10_156 : decode cr_10 156 = .ok (.ifCond .eq (85), 3) := by decide +kernel
theorem dr_10_159 : decode cr_10 159 = .ok (.iload_n 1, 1) := by decide +kernel
theorem dr_10_160 : decode cr_10 160 = .ok (.aload_n 0, 1) := by decide +kernel
theorem dr_10_161 : decode cr_10 161 = .ok (.getfield 78, 3) := by decide +kernel
theorem dr_10_164 : decode cr_10 164 = .ok (.if_icmp .ge (28), 3) := by decide +kernel
theorem dr_10_167 : decode cr_10 167 = .ok (.iload_n 1, 1) := by decide +kernel
theorem dr_10_168 : decode cr_10 168 = .ok (.iload_n 2, 1) := by decide +kernel
theorem dr_10_169 : decode cr_10 169 = .ok (.isub, 1) := by decide +kernel
theorem dr_10_170 : decode cr_10 170 = .ok (.iconst 4, 1) := by decide +kernel
theorem dr_10_171 : decode cr_10 171 = .ok (.if_icmp .ge (21), 3) := by decide +kernel
theorem dr_10_174 : decode cr_10 174 = .ok (.aload_n 0, 1) := by decide +kernel
theorem dr_10_175 : decode cr_10 175 = .ok (.getfield 7, 3) := by decide +kernel
theorem dr_10_178 : decode cr_10 178 = .ok (.iload_n 1, 1) := by decide +kernel
theorem dr_10_179 : decode cr_10 179 = .ok (.iaload, 1) := by decide +kernel
theorem dr_10_180 : decode cr_10 180 = .ok (.invokestatic 108, 3) := by decide +kernel
theorem dr_10_183 : decode cr_10 183 = .ok (.ifCond .eq (9), 3) := by decide +kernel
theorem dr_10_186 : decode cr_10 186 = .ok (.iinc 1 1, 3) := by decide +kernel
theorem dr_10_189 : decode cr_10 189 = .ok (.goto (-30), 3) := by decide +kernel
theorem dr_10_192 : decode cr_10 192 = .ok (.aload_n 0, 1) := by decide +kernel
theorem dr_10_193 : decode cr_10 193 = .ok (.iconst 2, 1) := by decide +kernel
theorem dr_10_194 : decode cr_10 194 = .ok (.iload_n 2, 1) := by decide +kernel
theorem dr_10_195 : decode cr_10 195 = .ok (.iload_n 1, 1) := by decide +kernel
theorem dr_10_196 : decode cr_10 196 = .ok (.iload_n 2, 1) := by decide +kernel
theorem dr_10_197 : decode cr_10 197 = .ok (.isub, 1) := by decide +kernel
theorem dr_10_198 : decode cr_10 198 = .ok (.invokevirtual 119, 3) := by decide +kernel
theorem dr_10_201 : decode cr_10 201 = .ok (.iload_n 1, 1) := by decide +kernel
theorem dr_10_202 : decode cr_10 202 = .ok (.aload_n 0, 1) := by decide +kernel
theorem dr_10_203 : decode cr_10 203 = .ok (.getfield 78, 3) := by decide +kernel
theorem dr_10_206 : decode cr_10 206 = .ok (.if_icmp .ge (65), 3) := by decide +kernel
theorem dr_10_209 : decode cr_10 209 = .ok (.iload_n 1, 1) := by decide +kernel
theorem dr_10_210 : decode cr_10 210 = .ok (.iload_n 2, 1) := by decide +kernel
theorem dr_10_211 : decode cr_10 211 = .ok (.isub, 1) := by decide +kernel
theorem dr_10_212 : decode cr_10 212 = .ok (.iconst 4, 1) := by decide +kernel
theorem dr_10_213 : decode cr_10 213 = .ok (.if_icmp .ne (58), 3) := by decide +kernel
theorem dr_10_216 : decode cr_10 216 = .ok (.aload_n 0, 1) := by decide +kernel
theorem dr_10_217 : decode cr_10 217 = .ok (.getfield 7, 3) := by decide +kernel
theorem dr_10_220 : decode cr_10 220 = .ok (.iload_n 1, 1) := by decide +kernel
theorem dr_10_221 : decode cr_10 221 = .ok (.iaload, 1) := by decide +kernel
theorem dr_10_222 : decode cr_10 222 = .ok (.invokestatic 108, 3) := by decide +kernel
theorem dr_10_225 : decode cr_10 225 = .ok (.ifCond .eq (46), 3) := by decide +kernel
theorem dr_10_228 : decode cr_10 228 = .ok (.aload_n 0, 1) := by decide +kernel
theorem dr_10_229 : decode cr_10 229 = .ok (.iconst 3, 1) := by decide +kernel
theorem dr_10_230 : decode cr_10 230 = .ok (.iload_n 1, 1) := by decide +kernel
theorem dr_10_231 : decode cr_10 231 = .ok (.iconst 1, 1) := by decide +kernel
theorem dr_10_232 : decode cr_10 232 = .ok (.invokevirtual 119, 3) := by decide +kernel
theorem dr_10_235 : decode cr_10 235 = .ok (.iinc 1 1, 3) := by decide +kernel
theorem dr_10_238 : decode cr_10 238 = .ok (.goto (33), 3) := by decide +kernel
theorem dr_10_241 : decode cr_10 241 = .ok (.iload_n 3, 1) := by decide +kernel
theorem dr_10_242 : decode cr_10 242 = .ok (.bipush 10, 2) := by decide +kernel
theorem dr_10_244 : decode cr_10 244 = .ok (.if_icmp .eq (27), 3) := by decide +kernel
theorem dr_10_247 : decode cr_10 247 = .ok (.iload_n 3, 1) := by decide +kernel
theorem dr_10_248 : decode cr_10 248 = .ok (.bipush 32, 2) := by decide +kernel
theorem dr_10_250 : decode cr_10 250 = .ok (.if_icmp .eq (21), 3) := by decide +kernel
theorem dr_10_253 : decode cr_10 253 = .ok (.aload_n 0, 1) := by decide +kernel
theorem dr_10_254 : decode cr_10 254 = .ok (.iload_n 3, 1) := by decide +kernel
theorem dr_10_255 : decode cr_10 255 = .ok (.invokestatic 123, 3) := by decide +kernel
theorem dr_10_258 : decode cr_10 258 = .ok (.ifCond .eq (7), 3) := by decide +kernel
theorem dr_10_261 : decode cr_10 261 = .ok (.iload_n 3, 1) := by decide +kernel
theorem dr_10_262 : decode cr_10 262 = .ok (.goto (4), 3) := by decide +kernel
theorem dr_10_265 : decode cr_10 265 = .ok (.iconst 3, 1) := by decide +kernel
theorem dr_10_266 : decode cr_10 266 = .ok (.iload_n 2, 1) := by decide +kernel
theorem dr_10_267 : decode cr_10 267 = .ok (.iconst 1, 1) := by decide +kernel
theorem dr_10_268 : decode cr_10 268 = .ok (.invokevirtual 119, 3) := by decide +kernel
theorem dr_10_271 : decode cr_10 271 = .ok (.goto (-264), 3) := by decide +kernel
theorem dr_10_274 : decode cr_10 274 = .ok (.aload_n 0, 1) := by decide +kernel
theorem dr_10_275 : decode cr_10 275 = .ok (.iconst 0, 1) := by decide +kernel
theorem dr_10_276 : decode cr_10 276 = .ok (.aload_n 0, 1) := by decide +kernel
theorem dr_10_277 : decode cr_10 277 = .ok (.getfield 78, 3) := by decide +kernel
theorem dr_10_280 : decode cr_10 280 = .ok (.iconst 0, 1) := by decide +kernel
theorem dr_10_281 : decode cr_10 281 = .ok (.invokevirtual 119, 3) := by decide +kernel
theorem dr_10_284 : decode cr_10 284 = .ok (.aload_n 0, 1) := by decide +kernel
theorem dr_10_285 : decode cr_10 285 = .ok (.dup, 1) := by decide +kernel
theorem dr_10_286 : decode cr_10 286 = .ok (.getfield 101, 3) := by decide +kernel
theorem dr_10_289 : decode cr_10 289 = .ok (.iconst 1, 1) := by decide +kernel
theorem dr_10_290 : decode cr_10 290 = .ok (.isub, 1) := by decide +kernel
theorem dr_10_291 : decode cr_10 291 = .ok (.putfield 101, 3) := by decide +kernel
theorem dr_10_294 : decode cr_10 294 = .ok (.return_, 1) := by decide +kernel
theorem dr_11_0 : decode cr_11 0 = .ok (.aload_n 0, 1) := by decide +kernel
theorem dr_11_1 : decode cr_11 1 = .ok (.getfield 32, 3) := by decide +kernel
theorem dr_11_4 : decode cr_11 4 = .ok (.aload_n 0, 1) := by decide +kernel
theorem dr_11_5 : decode cr_11 5 = .ok (.getfield 126, 3) := by decide +kernel
theorem dr_11_8 : decode cr_11 8 = .ok (.iload_n 1, 1) := by decide +kernel
theorem dr_11_9 : decode cr_11 9 = .ok (.iastore, 1) := by decide +kernel
theorem dr_11_10 : decode cr_11 10 = .ok (.aload_n 0, 1) := by decide +kernel
theorem dr_11_11 : decode cr_11 11 = .ok (.getfield 35, 3) := by decide +kernel
theorem dr_11_14 : decode cr_11 14 = .ok (.aload_n 0, 1) := by decide +kernel
theorem dr_11_15 : decode cr_11 15 = .ok (.getfield 126, 3) := by decide +kernel
theorem dr_11_18 : decode cr_11 18 = .ok (.iload_n 2, 1) := by decide +kernel
theorem dr_11_19 : decode cr_11 19 = .ok (.iastore, 1) := by decide +kernel
theorem dr_11_20 : decode cr_11 20 = .ok (.aload_n 0, 1) := by decide +kernel
theorem dr_11_21 : decode cr_11 21 = .ok (.dup, 1) := by decide +kernel
theorem dr_11_22 : decode cr_11 22 = .ok (.getfield 126, 3) := by decide +kernel
theorem dr_11_25 : decode cr_11 25 = .ok (.iconst 1, 1) := by decide +kernel
theorem dr_11_26 : decode cr_11 26 = .ok (.iadd, 1) := by decide +kernel
theorem dr_11_27 : decode cr_11 27 = .ok (.putfield 126, 3) := by decide +kernel
theorem dr_11_30 : decode cr_11 30 = .ok (.return_, 1) := by decide +kernel
theorem dr_12_0 : decode cr_12 0 = .ok (.aload_n 0, 1) := by decide +kernel
theorem dr_12_1 : decode cr_12 1 = .ok (.iconst 1, 1) := by decide +kernel
theorem dr_12_2 : decode cr_12 2 = .ok (.putfield 129, 3) := by decide +kernel
theorem dr_12_5 : decode cr_12 5 = .ok (.aload_n 0, 1) := by decide +kernel
theorem dr_12_6 : decode cr_12 6 = .ok (.aload_n 0, 1) := by decide +kernel
theorem dr_12_7 : decode cr_12 7 = .ok (.getfield 133, 3) := by decide +kernel
theorem dr_12_10 : decode cr_12 10 = .ok (.putfield 28, 3) := by decide +kernel
theorem dr_12_13 : decode cr_12 13 = .ok (.return_, 1) := by decide +kernel
theorem dr_13_0 : decode cr_13 0 = .ok (.aload_n 0, 1) := by decide +kernel
theorem dr_13_1 : decode cr_13 1 = .ok (.getfield 13, 3) := by decide +kernel
theorem dr_13_4 : decode cr_13 4 = .ok (.aload_n 0, 1) := by decide +kernel
theorem dr_13_5 : decode cr_13 5 = .ok (.getfield 133, 3) := by decide +kernel
theorem dr_13_8 : decode cr_13 8 = .ok (.iaload, 1) := by decide +kernel
theorem dr_13_9 : decode cr_13 9 = .ok (.iload_n 1, 1) := by decide +kernel
theorem dr_13_10 : decode cr_13 10 = .ok (.if_icmp .ne (7), 3) := by decide +kernel
theorem dr_13_13 : decode cr_13 13 = .ok (.iconst 1, 1) := by decide +kernel
theorem dr_13_14 : decode cr_13 14 = .ok (.goto (4), 3) := by decide +kernel
theorem dr_13_17 : decode cr_13 17 = .ok (.iconst 0, 1) := by decide +kernel
theorem dr_13_18 : decode cr_13 18 = .ok (.ireturn, 1) := by decide +kernel
theorem dr_14_0 : decode cr_14 0 = .ok (.aload_n 0, 1) := by decide +kernel
theorem dr_14_1 : decode cr_14 1 = .ok (.getfield 133, 3) := by decide +kernel
theorem dr_14_4 : decode cr_14 4 = .ok (.aload_n 0, 1) := by decide +kernel
theorem dr_14_5 : decode cr_14 5 = .ok (.getfield 101, 3) := by decide +kernel
theorem dr_14_8 : decode cr_14 8 = .ok (.if_icmp .ge (17), 3) := by decide +kernel
theorem dr_14_11 : decode cr_14 11 = .ok (.aload_n 0, 1) := by decide +kernel
theorem dr_14_12 : decode cr_14 12 = .ok (.getfield 13, 3) := by decide +kernel
theorem dr_14_15 : decode cr_14 15 = .ok (.aload_n 0, 1) := by decide +kernel
theorem dr_14_16 : decode cr_14 16 = .ok (.getfield 133, 3) := by decide +kernel
theorem dr_14_19 : decode cr_14 19 = .ok (.iconst 1, 1) := by decide +kernel
theorem dr_14_20 : decode cr_14 20 = .ok (.iadd, 1) := by decide +kernel
theorem dr_14_21 : decode cr_14 21 = .ok (.iaload, 1) := by decide +kernel
theorem dr_14_22 : decode cr_14 22 = .ok (.goto (4), 3) := by decide +kernel
theorem dr_14_25 : decode cr_14 25 = .ok (.iconst 0, 1) := by decide +kernel
theorem dr_14_26 : decode cr_14 26 = .ok (.ireturn, 1) := by decide +kernel
theorem dr_15_0 : decode cr_15 0 = .ok (.aload_n 0, 1) := by decide +kernel
theorem dr_15_1 : decode cr_15 1 = .ok (.getfield 136, 3) := by decide +kernel
theorem dr_15_4 : decode cr_15 4 = .ok (.bipush 8, 2) := by decide +kernel
theorem dr_15_6 : decode cr_15 6 = .ok (.if_icmp .ne (10), 3) := by decide +kernel
theorem dr_15_9 : decode cr_15 9 = .ok (.aload_n 0, 1) := by decide +kernel
theorem dr_15_10 : decode cr_15 10 = .ok (.invokevirtual 139, 3) := by decide +kernel
theorem dr_15_13 : decode cr_15 13 = .ok (.goto (23), 3) := by decide +kernel
theorem dr_15_16 : decode cr_15 16 = .ok (.aload_n 0, 1) := by decide +kernel
theorem dr_15_17 : decode cr_15 17 = .ok (.dup, 1) := by decide +kernel
theorem dr_15_18 : decode cr_15 18 = .ok (.getfield 136, 3) := by decide +kernel
theorem dr_15_21 : decode cr_15 21 = .ok (.iconst 1, 1) := by decide +kernel
theorem dr_15_22 : decode cr_15 22 = .ok (.iadd, 1) := by decide +kernel
theorem dr_15_23 : decode cr_15 23 = .ok (.putfield 136, 3) := by decide +kernel
theorem dr_15_26 : decode cr_15 26 = .ok (.aload_n 0, 1) := by decide +kernel
theorem dr_15_27 : decode cr_15 27 = .ok (.dup, 1) := by decide +kernel
theorem dr_15_28 : decode cr_15 28 = .ok (.getfield 133, 3) := by decide +kernel
theorem dr_15_31 : decode cr_15 31 = .ok (.iconst 1, 1) := by decide +kernel
theorem dr_15_32 : decode cr_15 32 = .ok (.iadd, 1) := by decide +kernel
theorem dr_15_33 : decode cr_15 33 = .ok (.putfield 133, 3) := by decide +kernel
theorem dr_15_36 : decode cr_15 36 = .ok (.return_, 1) := by decide +kernel
theorem dr_16_0 : decode cr_16 0 = .ok (.aload_n 0, 1) := by decide +kernel
theorem dr_16_1 : decode cr_16 1 = .ok (.getfield 129, 3) := by decide +kernel
theorem dr_16_4 : decode cr_16 4 = .ok (.ifCond .eq (4), 3) := by decide +kernel
theorem dr_16_7 : decode cr_16 7 = .ok (.return_, 1) := by decide +kernel
theorem dr_16_8 : decode cr_16 8 = .ok (.aload_n 0, 1) := by decide +kernel
theorem dr_16_9 : decode cr_16 9 = .ok (.iload_n 1, 1) := by decide +kernel
theorem dr_16_10 : decode cr_16 10 = .ok (.invokevirtual 142, 3) := by decide +kernel
theorem dr_16_13 : decode cr_16 13 = .ok (.ifCond .ne (8), 3) := by decide +kernel
theorem dr_16_16 : decode cr_16 16 = .ok (.aload_n 0, 1) := by decide +kernel
theorem dr_16_17 : decode cr_16 17 = .ok (.invokevirtual 139, 3) := by decide +kernel
theorem dr_16_20 : decode cr_16 20 = .ok (.return_, 1) := by decide +kernel
theorem dr_16_21 : decode cr_16 21 = .ok (.aload_n 0, 1) := by decide +kernel
theorem dr_16_22 : decode cr_16 22 = .ok (.iload_n 2, 1) := by decide +kernel
theorem dr_16_23 : decode cr_16 23 = .ok (.ifCond .eq (12), 3) := by decide +kernel
theorem dr_16_26 : decode cr_16 26 = .ok (.aload_n 0, 1) := by decide +kernel
theorem dr_16_27 : decode cr_16 27 = .ok (.getfield 136, 3) := by decide +kernel
theorem dr_16_30 : decode cr_16 30 = .ok (.iconst 1, 1) := by decide +kernel
theorem dr_16_31 : decode cr_16 31 = .ok (.isub, 1) := by decide +kernel
theorem dr_16_32 : decode cr_16 32 = .ok (.goto (7), 3) := by decide +kernel
theorem dr_16_35 : decode cr_16 35 = .ok (.aload_n 0, 1) := by decide +kernel
theorem dr_16_36 : decode cr_16 36 = .ok (.getfield 136, 3) := by decide +kernel
theorem dr_16_39 : decode cr_16 39 = .ok (.putfield 136, 3) := by decide +kernel
theorem dr_16_42 : decode cr_16 42 = .ok (.aload_n 0, 1) := by decide +kernel
theorem dr_16_43 : decode cr_16 43 = .ok (.dup, 1) := by decide +kernel
theorem dr_16_44 : decode cr_16 44 = .ok (.getfield 133, 3) := by decide +kernel
theorem dr_16_47 : decode cr_16 47 = .ok (.iconst 1, 1) := by decide +kernel
theorem dr_16_48 : decode cr_16 48 = .ok (.iadd, 1) := by decide +kernel
theorem dr_16_49 : decode cr_16 49 = .ok (.putfield 133, 3) := by decide +kernel
theorem dr_16_52 : decode cr_16 52 = .ok (.return_, 1) := by decide +kernel
theorem dr_17_0 : decode cr_17 0 = .ok (.aload_n 0, 1) := by decide +kernel
theorem dr_17_1 : decode cr_17 1 = .ok (.aload_n 0, 1) := by decide +kernel
theorem dr_17_2 : decode cr_17 2 = .ok (.getfield 16, 3) := by decide +kernel
theorem dr_17_5 : decode cr_17 5 = .ok (.iload_n 1, 1) := by decide +kernel
theorem dr_17_6 : decode cr_17 6 = .ok (.iaload, 1) := by decide +kernel
theorem dr_17_7 : decode cr_17 7 = .ok (.aload_n 0, 1) := by decide +kernel
theorem dr_17_8 : decode cr_17 8 = .ok (.getfield 19, 3) := by decide +kernel
theorem dr_17_11 : decode cr_17 11 = .ok (.iload_n 1, 1) := by decide +kernel
theorem dr_17_12 : decode cr_17 12 = .ok (.iaload, 1) := by decide +kernel
theorem dr_17_13 : decode cr_17 13 = .ok (.invokevirtual 111, 3) := by decide +kernel
theorem dr_17_16 : decode cr_17 16 = .ok (.lstore_n 2, 1) := by decide +kernel
theorem dr_17_17 : decode cr_17 17 = .ok (.aload_n 0, 1) := by decide +kernel
theorem dr_17_18 : decode cr_17 18 = .ok (.getfield 145, 3) := by decide +kernel
theorem dr_17_21 : decode cr_17 21 = .ok (.iconst 1, 1) := by decide +kernel
theorem dr_17_22 : decode cr_17 22 = .ok (.isub, 1) := by decide +kernel
theorem dr_17_23 : decode cr_17 23 = .ok (.istore 4, 2) := by decide +kernel
theorem dr_17_25 : decode cr_17 25 = .ok (.iload 4, 2) := by decide +kernel
theorem dr_17_27 : decode cr_17 27 = .ok (.ifCond .lt (59), 3) := by decide +kernel
theorem dr_17_30 : decode cr_17 30 = .ok (.iconst 0, 1) := by decide +kernel
theorem dr_17_31 : decode cr_17 31 = .ok (.istore 5, 2) := by decide +kernel
theorem dr_17_33 : decode cr_17 33 = .ok (.iload 5, 2) := by decide +kernel
theorem dr_17_35 : decode cr_17 35 = .ok (.aload_n 0, 1) := by decide +kernel
theorem dr_17_36 : decode cr_17 36 = .ok (.getfield 148, 3) := by decide +kernel
theorem dr_17_39 : decode cr_17 39 = .ok (.if_icmp .ge (41), 3) := by decide +kernel
theorem dr_17_42 : decode cr_17 42 = .ok (.aload_n 0, 1) := by decide +kernel
theorem dr_17_43 : decode cr_17 43 = .ok (.getfield 44, 3) := by decide +kernel
theorem dr_17_46 : decode cr_17 46 = .ok (.iload 5, 2) := by decide +kernel
theorem dr_17_48 : decode cr_17 48 = .ok (.iaload, 1) := by decide +kernel
theorem dr_17_49 : decode cr_17 49 = .ok (.aload_n 0, 1) := by decide +kernel
theorem dr_17_50 : decode cr_17 50 = .ok (.getfield 38, 3) := by decide +kernel
theorem dr_17_53 : decode cr_17 53 = .ok (.iload 4, 2) := by decide +kernel
theorem dr_17_55 : decode cr_17 55 = .ok (.iaload, 1) := by decide +kernel
theorem dr_17_56 : decode cr_17 56 = .ok (.if_icmp .ne (18), 3) := by decide +kernel
theorem dr_17_59 : decode cr_17 59 = .ok (.aload_n 0, 1) := by decide +kernel
theorem dr_17_60 : decode cr_17 60 = .ok (.getfield 62, 3) := by decide +kernel
theorem dr_17_63 : decode cr_17 63 = .ok (.iload 5, 2) := by decide +kernel
theorem dr_17_65 : decode cr_17 65 = .ok (.laload, 1) := by decide +kernel
theorem dr_17_66 : decode cr_17 66 = .ok (.lload_n 2, 1) := by decide +kernel
theorem dr_17_67 : decode cr_17 67 = .ok (.lcmp, 1) := by decide +kernel
theorem dr_17_68 : decode cr_17 68 = .ok (.ifCond .ne (6), 3) := by decide +kernel
theorem dr_17_71 : decode cr_17 71 = .ok (.iload 5, 2) := by decide +kernel
theorem dr_17_73 : decode cr_17 73 = .ok (.ireturn, 1) := by decide +kernel
theorem dr_17_74 : decode cr_17 74 = .ok (.iinc 5 1, 3) := by decide +kernel
theorem dr_17_77 : decode cr_17 77 = .ok (.goto (-44), 3) := by decide +kernel
theorem dr_17_80 : decode cr_17 80 = .ok (.iinc 4 (-1), 3) := by decide +kernel
theorem dr_17_83 : decode cr_17 83 = .ok (.goto (-58), 3) := by decide +kernel
theorem dr_17_86 : decode cr_17 86 = .ok (.iconst (-1), 1) := by decide +kernel
theorem dr_17_87 : decode cr_17 87 = .ok (.ireturn, 1) := by decide +kernel
theorem dr_18_0 : decode cr_18 0 = .ok (.aload_n 0, 1) := by decide +kernel
theorem dr_18_1 : decode cr_18 1 = .ok (.getfield 13, 3) := by decide +kernel
theorem dr_18_4 : decode cr_18 4 = .ok (.iload_n 1, 1) := by decide +kernel
theorem dr_18_5 : decode cr_18 5 = .ok (.iaload, 1) := by decide +kernel
theorem dr_18_6 : decode cr_18 6 = .ok (.iconst 1, 1) := by decide +kernel
theorem dr_18_7 : decode cr_18 7 = .ok (.if_icmp .ne (11), 3) := by decide +kernel
theorem dr_18_10 : decode cr_18 10 = .ok (.aload_n 0, 1) := by decide +kernel
theorem dr_18_11 : decode cr_18 11 = .ok (.iload_n 1, 1) := by decide +kernel
theorem dr_18_12 : decode cr_18 12 = .ok (.invokevirtual 151, 3) := by decide +kernel
theorem dr_18_15 : decode cr_18 15 = .ok (.goto (4), 3) := by decide +kernel
theorem dr_18_18 : decode cr_18 18 = .ok (.iconst (-1), 1) := by decide +kernel
theorem dr_18_19 : decode cr_18 19 = .ok (.istore_n 2, 1) := by decide +kernel
theorem dr_18_20 : decode cr_18 20 = .ok (.iload_n 2, 1) := by decide +kernel
theorem dr_18_21 : decode cr_18 21 = .ok (.ifCond .lt (17), 3) := by decide +kernel
theorem dr_18_24 : decode cr_18 24 = .ok (.aload_n 0, 1) := by decide +kernel
theorem dr_18_25 : decode cr_18 25 = .ok (.getfield 50, 3) := by decide +kernel
theorem dr_18_28 : decode cr_18 28 = .ok (.iload_n 2, 1) := by decide +kernel
theorem dr_18_29 : decode cr_18 29 = .ok (.iaload, 1) := by decide +kernel
theorem dr_18_30 : decode cr_18 30 = .ok (.iconst 1, 1) := by decide +kernel
theorem dr_18_31 : decode cr_18 31 = .ok (.if_icmp .ne (7), 3) := by decide +kernel
theorem dr_18_34 : decode cr_18 34 = .ok (.iconst 1, 1) := by decide +kernel
theorem dr_18_35 : decode cr_18 35 = .ok (.goto (4), 3) := by decide +kernel
theorem dr_18_38 : decode cr_18 38 = .ok (.iconst 0, 1) := by decide +kernel
theorem dr_18_39 : decode cr_18 39 = .ok (.ireturn, 1) := by decide +kernel
theorem dr_19_0 : decode cr_19 0 = .ok (.aload_n 0, 1) := by decide +kernel
theorem dr_19_1 : decode cr_19 1 = .ok (.getfield 13, 3) := by decide +kernel
theorem dr_19_4 : decode cr_19 4 = .ok (.iload_n 1, 1) := by decide +kernel
theorem dr_19_5 : decode cr_19 5 = .ok (.iaload, 1) := by decide +kernel
theorem dr_19_6 : decode cr_19 6 = .ok (.iconst 5, 1) := by decide +kernel
theorem dr_19_7 : decode cr_19 7 = .ok (.if_icmp .eq (33), 3) := by decide +kernel
theorem dr_19_10 : decode cr_19 10 = .ok (.aload_n 0, 1) := by decide +kernel
theorem dr_19_11 : decode cr_19 11 = .ok (.getfield 13, 3) := by decide +kernel
theorem dr_19_14 : decode cr_19 14 = .ok (.iload_n 1, 1) := by decide +kernel
theorem dr_19_15 : decode cr_19 15 = .ok (.iaload, 1) := by decide +kernel
theorem dr_19_16 : decode cr_19 16 = .ok (.bipush 6, 2) := by decide +kernel
theorem dr_19_18 : decode cr_19 18 = .ok (.if_icmp .eq (22), 3) := by decide +kernel
theorem dr_19_21 : decode cr_19 21 = .ok (.aload_n 0, 1) := by decide +kernel
theorem dr_19_22 : decode cr_19 22 = .ok (.getfield 13, 3) := by decide +kernel
theorem dr_19_25 : decode cr_19 25 = .ok (.iload_n 1, 1) := by decide +kernel
theorem dr_19_26 : decode cr_19 26 = .ok (.iaload, 1) := by decide +kernel
theorem dr_19_27 : decode cr_19 27 = .ok (.bipush 7, 2) := by decide +kernel
theorem dr_19_29 : decode cr_19 29 = .ok (.if_icmp .eq (11), 3) := by decide +kernel
theorem dr_19_32 : decode cr_19 32 = .ok (.aload_n 0, 1) := by decide +kernel
theorem dr_19_33 : decode cr_19 33 = .ok (.iload_n 1, 1) := by decide +kernel
theorem dr_19_34 : decode cr_19 34 = .ok (.invokevirtual 155, 3) := by decide +kernel
theorem dr_19_37 : decode cr_19 37 = .ok (.ifCond .eq (7), 3) := by decide +kernel
theorem dr_19_40 : decode cr_19 40 = .ok (.iconst 1, 1) := by decide +kernel
theorem dr_19_41 : decode cr_19 41 = .ok (.goto (4), 3) := by decide +kernel
theorem dr_19_44 : decode cr_19 44 = .ok (.iconst 0, 1) := by decide +kernel
theorem dr_19_45 : decode cr_19 45 = .ok (.ireturn, 1) := by decide +kernel
theorem dr_20_0 : decode cr_20 0 = .ok (.aload_n 0, 1) := by decide +kernel
theorem dr_20_1 : decode cr_20 1 = .ok (.iload_n 1, 1) := by decide +kernel
theorem dr_20_2 : decode cr_20 2 = .ok (.invokevirtual 151, 3) := by decide +kernel
theorem dr_20_5 : decode cr_20 5 = .ok (.istore_n 2, 1) := by decide +kernel
theorem dr_20_6 : decode cr_20 6 = .ok (.iload_n 2, 1) := by decide +kernel
theorem dr_20_7 : decode cr_20 7 = .ok (.ifCond .lt (23), 3) := by decide +kernel
theorem dr_20_10 : decode cr_20 10 = .ok (.aload_n 0, 1) := by decide +kernel
theorem dr_20_11 : decode cr_20 11 = .ok (.getfield 44, 3) := by decide +kernel
theorem dr_20_14 : decode cr_20 14 = .ok (.iload_n 2, 1) := by decide +kernel
theorem dr_20_15 : decode cr_20 15 = .ok (.iaload, 1) := by decide +kernel
theorem dr_20_16 : decode cr_20 16 = .ok (.aload_n 0, 1) := by decide +kernel
theorem dr_20_17 : decode cr_20 17 = .ok (.getfield 38, 3) := by decide +kernel
theorem dr_20_20 : decode cr_20 20 = .ok (.aload_n 0, 1) := by decide +kernel
theorem dr_20_21 : decode cr_20 21 = .ok (.getfield 145, 3) := by decide +kernel
theorem dr_20_24 : decode cr_20 24 = .ok (.iconst 1, 1) := by decide +kernel
theorem dr_20_25 : decode cr_20 25 = .ok (.isub, 1) := by decide +kernel
theorem dr_20_26 : decode cr_20 26 = .ok (.iaload, 1) := by decide +kernel
theorem dr_20_27 : decode cr_20 27 = .ok (.if_icmp .eq (7), 3) := by decide +kernel
theorem dr_20_30 : decode cr_20 30 = .ok (.iconst 1, 1) := by decide +kernel
theorem dr_20_31 : decode cr_20 31 = .ok (.goto (4), 3) := by decide +kernel
theorem dr_20_34 : decode cr_20 34 = .ok (.iconst 0, 1) := by decide +kernel
theorem dr_20_35 : decode cr_20 35 = .ok (.ireturn, 1) := by decide +kernel
theorem dr_21_0 : decode cr_21 0 = .ok (.aload_n 0, 1) := by decide +kernel
theorem dr_21_1 : decode cr_21 1 = .ok (.getfield 129, 3) := by decide +kernel
theorem dr_21_4 : decode cr_21 4 = .ok (.ifCond .ne (14), 3) := by decide +kernel
theorem dr_21_7 : decode cr_21 7 = .ok (.aload_n 0, 1) := by decide +kernel
theorem dr_21_8 : decode cr_21 8 = .ok (.aload_n 0, 1) := by decide +kernel
theorem dr_21_9 : decode cr_21 9 = .ok (.getfield 133, 3) := by decide +kernel
theorem dr_21_12 : decode cr_21 12 = .ok (.invokevirtual 158, 3) := by decide +kernel
theorem dr_21_15 : decode cr_21 15 = .ok (.ifCond .ne (16), 3) := by decide +kernel
theorem dr_21_18 : decode cr_21 18 = .ok (.aload_n 0, 1) := by decide +kernel
theorem dr_21_19 : decode cr_21 19 = .ok (.getfield 129, 3) := by decide +kernel
theorem dr_21_22 : decode cr_21 22 = .ok (.ifCond .ne (7), 3) := by decide +kernel
theorem dr_21_25 : decode cr_21 25 = .ok (.aload_n 0, 1) := by decide +kernel
theorem dr_21_26 : decode cr_21 26 = .ok (.invokevirtual 139, 3) := by decide +kernel
theorem dr_21_29 : decode cr_21 29 = .ok (.iconst (-1), 1) := by decide +kernel
theorem dr_21_30 : decode cr_21 30 = .ok (.ireturn, 1) := by decide +kernel
theorem dr_21_31 : decode cr_21 31 = .ok (.aload_n 0, 1) := by decide +kernel
theorem dr_21_32 : decode cr_21 32 = .ok (.getfield 13, 3) := by decide +kernel
theorem dr_21_35 : decode cr_21 35 = .ok (.aload_n 0, 1) := by decide +kernel
theorem dr_21_36 : decode cr_21 36 = .ok (.getfield 133, 3) := by decide +kernel
theorem dr_21_39 : decode cr_21 39 = .ok (.iaload, 1) := by decide +kernel
theorem dr_21_40 : decode cr_21 40 = .ok (.istore_n 1, 1) := by decide +kernel
theorem dr_21_41 : decode cr_21 41 = .ok (.iload_n 1, 1) := by decide +kernel
theorem dr_21_42 : decode cr_21 42 = .ok (.iconst 5, 1) := by decide +kernel
theorem dr_21_43 : decode cr_21 43 = .ok (.if_icmp .ne (8), 3) := by decide +kernel
theorem dr_21_46 : decode cr_21 46 = .ok (.bipush 105, 2) := by decide +kernel
theorem dr_21_48 : decode cr_21 48 = .ok (.goto (37), 3) := by decide +kernel
theorem dr_21_51 : decode cr_21 51 = .ok (.iload_n 1, 1) := by decide +kernel
theorem dr_21_52 : decode cr_21 52 = .ok (.bipush 6, 2) := by decide +kernel
theorem dr_21_54 : decode cr_21 54 = .ok (.if_icmp .ne (8), 3) := by decide +kernel
theorem dr_21_57 : decode cr_21 57 = .ok (.bipush 99, 2) := by decide +kernel
theorem dr_21_59 : decode cr_21 59 = .ok (.goto (26), 3) := by decide +kernel
theorem dr_21_62 : decode cr_21 62 = .ok (.iload_n 1, 1) := by decide +kernel
theorem dr_21_63 : decode cr_21 63 = .ok (.bipush 7, 2) := by decide +kernel
theorem dr_21_65 : decode cr_21 65 = .ok (.if_icmp .ne (8), 3) := by decide +kernel
theorem dr_21_68 : decode cr_21 68 = .ok (.bipush 118, 2) := by decide +kernel
theorem dr_21_70 : decode cr_21 70 = .ok (.goto (15), 3) := by decide +kernel
theorem dr_21_73 : decode cr_21 73 = .ok (.sipush 1000, 3) := by decide +kernel
theorem dr_21_76 : decode cr_21 76 = .ok (.aload_n 0, 1) := by decide +kernel
theorem dr_21_77 : decode cr_21 77 = .ok (.aload_n 0, 1) := by decide +kernel
theorem dr_21_78 : decode cr_21 78 = .ok (.getfield 133, 3) := by decide +kernel
theorem dr_21_81 : decode cr_21 81 = .ok (.invokevirtual 151, 3) := by decide +kernel
theorem dr_21_84 : decode cr_21 84 = .ok (.iadd, 1) := by decide +kernel
theorem dr_21_85 : decode cr_21 85 = .ok (.istore_n 2, 1) := by decide +kernel
theorem dr_21_86 : decode cr_21 86 = .ok (.iload_n 1, 1) := by decide +kernel
theorem dr_21_87 : decode cr_21 87 = .ok (.iconst 1, 1) := by decide +kernel
theorem dr_21_88 : decode cr_21 88 = .ok (.if_icmp .ne (27), 3) := by decide +kernel
theorem dr_21_91 : decode cr_21 91 = .ok (.aload_n 0, 1) := by decide +kernel
theorem dr_21_92 : decode cr_21 92 = .ok (.getfield 22, 3) := by decide +kernel
theorem dr_21_95 : decode cr_21 95 = .ok (.aload_n 0, 1) := by decide +kernel
theorem dr_21_96 : decode cr_21 96 = .ok (.getfield 133, 3) := by decide +kernel
theorem dr_21_99 : decode cr_21 99 = .ok (.iconst 1, 1) := by decide +kernel
theorem dr_21_100 : decode cr_21 100 = .ok (.iastore, 1) := by decide +kernel
theorem dr_21_101 : decode cr_21 101 = .ok (.aload_n 0, 1) := by decide +kernel
theorem dr_21_102 : decode cr_21 102 = .ok (.getfield 25, 3) := by decide +kernel
theorem dr_21_105 : decode cr_21 105 = .ok (.aload_n 0, 1) := by decide +kernel
theorem dr_21_106 : decode cr_21 106 = .ok (.getfield 133, 3) := by decide +kernel
theorem dr_21_109 : decode cr_21 109 = .ok (.iload_n 2, 1) := by decide +kernel
theorem dr_21_110 : decode cr_21 110 = .ok (.sipush 1000, 3) := by decide +kernel
theorem dr_21_113 : decode cr_21 113 = .ok (.isub, 1) := by decide +kernel
theorem dr_21_114 : decode cr_21 114 = .ok (.iastore, 1) := by decide +kernel
theorem dr_21_115 : decode cr_21 115 = .ok (.aload_n 0, 1) := by decide +kernel
theorem dr_21_116 : decode cr_21 116 = .ok (.dup, 1) := by decide +kernel
theorem dr_21_117 : decode cr_21 117 = .ok (.getfield 133, 3) := by decide +kernel
theorem dr_21_120 : decode cr_21 120 = .ok (.iconst 1, 1) := by decide +kernel
theorem dr_21_121 : decode cr_21 121 = .ok (.iadd, 1) := by decide +kernel
theorem dr_21_122 : decode cr_21 122 = .ok (.putfield 133, 3) := by decide +kernel
theorem dr_21_125 : decode cr_21 125 = .ok (.iload_n 2, 1) := by decide +kernel
theorem dr_21_126 : decode cr_21 126 = .ok (.ireturn, 1) := by decide +kernel
theorem dr_22_0 : decode cr_22 0 = .ok (.aload_n 0, 1) := by decide +kernel
theorem dr_22_1 : decode cr_22 1 = .ok (.getfield 38, 3) := by decide +kernel
theorem dr_22_4 : decode cr_22 4 = .ok (.aload_n 0, 1) := by decide +kernel
theorem dr_22_5 : decode cr_22 5 = .ok (.getfield 145, 3) := by decide +kernel
theorem dr_22_8 : decode cr_22 8 = .ok (.iload_n 1, 1) := by decide +kernel
theorem dr_22_9 : decode cr_22 9 = .ok (.iastore, 1) := by decide +kernel
theorem dr_22_10 : decode cr_22 10 = .ok (.aload_n 0, 1) := by decide +kernel
theorem dr_22_11 : decode cr_22 11 = .ok (.dup, 1) := by decide +kernel
theorem dr_22_12 : decode cr_22 12 = .ok (.getfield 145, 3) := by decide +kernel
theorem dr_22_15 : decode cr_22 15 = .ok (.iconst 1, 1) := by decide +kernel
theorem dr_22_16 : decode cr_22 16 = .ok (.iadd, 1) := by decide +kernel
theorem dr_22_17 : decode cr_22 17 = .ok (.putfield 145, 3) := by decide +kernel
theorem dr_22_20 : decode cr_22 20 = .ok (.return_, 1) := by decide +kernel
theorem dr_23_0 : decode cr_23 0 = .ok (.aload_n 0, 1) := by decide +kernel
theorem dr_23_1 : decode cr_23 1 = .ok (.dup, 1) := by decide +kernel
theorem dr_23_2 : decode cr_23 2 = .ok (.getfield 161, 3) := by decide +kernel
theorem dr_23_5 : decode cr_23 5 = .ok (.iconst 1, 1) := by decide +kernel
theorem dr_23_6 : decode cr_23 6 = .ok (.iadd, 1) := by decide +kernel
theorem dr_23_7 : decode cr_23 7 = .ok (.putfield 161, 3) := by decide +kernel
theorem dr_23_10 : decode cr_23 10 = .ok (.aload_n 0, 1) := by decide +kernel
theorem dr_23_11 : decode cr_23 11 = .ok (.getfield 161, 3) := by decide +kernel
theorem dr_23_14 : decode cr_23 14 = .ok (.iconst 1, 1) := by decide +kernel
theorem dr_23_15 : decode cr_23 15 = .ok (.isub, 1) := by decide +kernel
theorem dr_23_16 : decode cr_23 16 = .ok (.ireturn, 1) := by decide +kernel
theorem dr_24_0 : decode cr_24 0 = .ok (.aload_n 0, 1) := by decide +kernel
theorem dr_24_1 : decode cr_24 1 = .ok (.getfield 66, 3) := by decide +kernel
theorem dr_24_4 : decode cr_24 4 = .ok (.aload_n 0, 1) := by decide +kernel
theorem dr_24_5 : decode cr_24 5 = .ok (.getfield 164, 3) := by decide +kernel
theorem dr_24_8 : decode cr_24 8 = .ok (.iload_n 1, 1) := by decide +kernel
theorem dr_24_9 : decode cr_24 9 = .ok (.iastore, 1) := by decide +kernel
theorem dr_24_10 : decode cr_24 10 = .ok (.aload_n 0, 1) := by decide +kernel
theorem dr_24_11 : decode cr_24 11 = .ok (.dup, 1) := by decide +kernel
theorem dr_24_12 : decode cr_24 12 = .ok (.getfield 164, 3) := by decide +kernel
theorem dr_24_15 : decode cr_24 15 = .ok (.iconst 1, 1) := by decide +kernel
theorem dr_24_16 : decode cr_24 16 = .ok (.iadd, 1) := by decide +kernel
theorem dr_24_17 : decode cr_24 17 = .ok (.putfield 164, 3) := by decide +kernel
theorem dr_24_20 : decode cr_24 20 = .ok (.return_, 1) := by decide +kernel
theorem dr_25_0 : decode cr_25 0 = .ok (.iload_n 1, 1) := by decide +kernel
theorem dr_25_1 : decode cr_25 1 = .ok (.sipush 1000, 3) := by decide +kernel
theorem dr_25_4 : decode cr_25 4 = .ok (.if_icmp .ge (9), 3) := by decide +kernel
theorem dr_25_7 : decode cr_25 7 = .ok (.aload_n 0, 1) := by decide +kernel
theorem dr_25_8 : decode cr_25 8 = .ok (.iload_n 1, 1) := by decide +kernel
theorem dr_25_9 : decode cr_25 9 = .ok (.invokevirtual 167, 3) := by decide +kernel
theorem dr_25_12 : decode cr_25 12 = .ok (.return_, 1) := by decide +kernel
theorem dr_25_13 : decode cr_25 13 = .ok (.iload_n 1, 1) := by decide +kernel
theorem dr_25_14 : decode cr_25 14 = .ok (.sipush 1000, 3) := by decide +kernel
theorem dr_25_17 : decode cr_25 17 = .ok (.isub, 1) := by decide +kernel
theorem dr_25_18 : decode cr_25 18 = .ok (.istore_n 2, 1) := by decide +kernel
theorem dr_25_19 : decode cr_25 19 = .ok (.bipush 100, 2) := by decide +kernel
theorem dr_25_21 : decode cr_25 21 = .ok (.istore_n 3, 1) := by decide +kernel
theorem dr_25_22 : decode cr_25 22 = .ok (.iload_n 3, 1) := by decide +kernel
theorem dr_25_23 : decode cr_25 23 = .ok (.ifCond .le (34), 3) := by decide +kernel
theorem dr_25_26 : decode cr_25 26 = .ok (.iload_n 2, 1) := by decide +kernel
theorem dr_25_27 : decode cr_25 27 = .ok (.iload_n 3, 1) := by decide +kernel
theorem dr_25_28 : decode cr_25 28 = .ok (.if_icmp .ge (8), 3) := by decide +kernel
theorem dr_25_31 : decode cr_25 31 = .ok (.iload_n 3, 1) := by decide +kernel
theorem dr_25_32 : decode cr_25 32 = .ok (.iconst 1, 1) := by decide +kernel
theorem dr_25_33 : decode cr_25 33 = .ok (.if_icmp .ne (16), 3) := by decide +kernel
theorem dr_25_36 : decode cr_25 36 = .ok (.aload_n 0, 1) := by decide +kernel
theorem dr_25_37 : decode cr_25 37 = .ok (.bipush 48, 2) := by decide +kernel
theorem dr_25_39 : decode cr_25 39 = .ok (.iload_n 2, 1) := by decide +kernel
theorem dr_25_40 : decode cr_25 40 = .ok (.iload_n 3, 1) := by decide +kernel
theorem dr_25_41 : decode cr_25 41 = .ok (.idiv, 1) := by decide +kernel
theorem dr_25_42 : decode cr_25 42 = .ok (.bipush 10, 2) := by decide +kernel
theorem dr_25_44 : decode cr_25 44 = .ok (.irem, 1) := by decide +kernel
theorem dr_25_45 : decode cr_25 45 = .ok (.iadd, 1) := by decide +kernel
theorem dr_25_46 : decode cr_25 46 = .ok (.invokevirtual 167, 3) := by decide +kernel
theorem dr_25_49 : decode cr_25 49 = .ok (.iload_n 3, 1) := by decide +kernel
theorem dr_25_50 : decode cr_25 50 = .ok (.bipush 10, 2) := by decide +kernel
theorem dr_25_52 : decode cr_25 52 = .ok (.idiv, 1) := by decide +kernel
theorem dr_25_53 : decode cr_25 53 = .ok (.istore_n 3, 1) := by decide +kernel
theorem dr_25_54 : decode cr_25 54 = .ok (.goto (-32), 3) := by decide +kernel
theorem dr_25_57 : decode cr_25 57 = .ok (.aload_n 0, 1) := by decide +kernel
theorem dr_25_58 : decode cr_25 58 = .ok (.bipush 46, 2) := by decide +kernel
theorem dr_25_60 : decode cr_25 60 = .ok (.invokevirtual 167, 3) := by decide +kernel
theorem dr_25_63 : decode cr_25 63 = .ok (.return_, 1) := by decide +kernel
theorem dr_26_0 : decode cr_26 0 = .ok (.aload_n 0, 1) := by decide +kernel
theorem dr_26_1 : decode cr_26 1 = .ok (.getfield 72, 3) := by decide +kernel
theorem dr_26_4 : decode cr_26 4 = .ok (.aload_n 0, 1) := by decide +kernel
theorem dr_26_5 : decode cr_26 5 = .ok (.getfield 171, 3) := by decide +kernel
theorem dr_26_8 : decode cr_26 8 = .ok (.iload_n 1, 1) := by decide +kernel
theorem dr_26_9 : decode cr_26 9 = .ok (.iastore, 1) := by decide +kernel
theorem dr_26_10 : decode cr_26 10 = .ok (.aload_n 0, 1) := by decide +kernel
theorem dr_26_11 : decode cr_26 11 = .ok (.dup, 1) := by decide +kernel
theorem dr_26_12 : decode cr_26 12 = .ok (.getfield 171, 3) := by decide +kernel
theorem dr_26_15 : decode cr_26 15 = .ok (.iconst 1, 1) := by decide +kernel
theorem dr_26_16 : decode cr_26 16 = .ok (.iadd, 1) := by decide +kernel
theorem dr_26_17 : decode cr_26 17 = .ok (.putfield 171, 3) := by decide +kernel
theorem dr_26_20 : decode cr_26 20 = .ok (.return_, 1) := by decide +kernel
theorem dr_27_0 : decode cr_27 0 = .ok (.iload_n 1, 1) := by decide +kernel
theorem dr_27_1 : decode cr_27 1 = .ok (.bipush 9, 2) := by decide +kernel
theorem dr_27_3 : decode cr_27 3 = .ok (.if_icmp .le (9), 3) := by decide +kernel
theorem dr_27_6 : decode cr_27 6 = .ok (.aload_n 0, 1) := by decide +kernel
theorem dr_27_7 : decode cr_27 7 = .ok (.iload_n 1, 1) := by decide +kernel
theorem dr_27_8 : decode cr_27 8 = .ok (.invokevirtual 174, 3) := by decide +kernel
theorem dr_27_11 : decode cr_27 11 = .ok (.return_, 1) := by decide +kernel
theorem dr_27_12 : decode cr_27 12 = .ok (.aload_n 0, 1) := by decide +kernel
theorem dr_27_13 : decode cr_27 13 = .ok (.bipush 48, 2) := by decide +kernel
theorem dr_27_15 : decode cr_27 15 = .ok (.iload_n 1, 1) := by decide +kernel
theorem dr_27_16 : decode cr_27 16 = .ok (.iadd, 1) := by decide +kernel
theorem dr_27_17 : decode cr_27 17 = .ok (.invokevirtual 177, 3) := by decide +kernel
theorem dr_27_20 : decode cr_27 20 = .ok (.return_, 1) := by decide +kernel
theorem dr_28_0 : decode cr_28 0 = .ok (.iload_n 1, 1) := by decide +kernel
theorem dr_28_1 : decode cr_28 1 = .ok (.bipush 99, 2) := by decide +kernel
theorem dr_28_3 : decode cr_28 3 = .ok (.if_icmp .le (14), 3) := by decide +kernel
theorem dr_28_6 : decode cr_28 6 = .ok (.aload_n 0, 1) := by decide +kernel
theorem dr_28_7 : decode cr_28 7 = .ok (.bipush 48, 2) := by decide +kernel
theorem dr_28_9 : decode cr_28 9 = .ok (.iload_n 1, 1) := by decide +kernel
theorem dr_28_10 : decode cr_28 10 = .ok (.bipush 100, 2) := by decide +kernel
theorem dr_28_12 : decode cr_28 12 = .ok (.idiv, 1) := by decide +kernel
theorem dr_28_13 : decode cr_28 13 = .ok (.iadd, 1) := by decide +kernel
theorem dr_28_14 : decode cr_28 14 = .ok (.invokevirtual 177, 3) := by decide +kernel
theorem dr_28_17 : decode cr_28 17 = .ok (.aload_n 0, 1) := by decide +kernel
theorem dr_28_18 : decode cr_28 18 = .ok (.bipush 48, 2) := by decide +kernel
theorem dr_28_20 : decode cr_28 20 = .ok (.iload_n 1, 1) := by decide +kernel
theorem dr_28_21 : decode cr_28 21 = .ok (.bipush 10, 2) := by decide +kernel
theorem dr_28_23 : decode cr_28 23 = .ok (.idiv, 1) := by decide +kernel
theorem dr_28_24 : decode cr_28 24 = .ok (.bipush 10, 2) := by decide +kernel
theorem dr_28_26 : decode cr_28 26 = .ok (.irem, 1) := by decide +kernel
theorem dr_28_27 : decode cr_28 27 = .ok (.iadd, 1) := by decide +kernel
theorem dr_28_28 : decode cr_28 28 = .ok (.invokevirtual 177, 3) := by decide +kernel
theorem dr_28_31 : decode cr_28 31 = .ok (.aload_n 0, 1) := by decide +kernel
theorem dr_28_32 : decode cr_28 32 = .ok (.bipush 48, 2) := by decide +kernel
theorem dr_28_34 : decode cr_28 34 = .ok (.iload_n 1, 1) := by decide +kernel
theorem dr_28_35 : decode cr_28 35 = .ok (.bipush 10, 2) := by decide +kernel
theorem dr_28_37 : decode cr_28 37 = .ok (.irem, 1) := by decide +kernel
theorem dr_28_38 : decode cr_28 38 = .ok (.iadd, 1) := by decide +kernel
theorem dr_28_39 : decode cr_28 39 = .ok (.invokevirtual 177, 3) := by decide +kernel
theorem dr_28_42 : decode cr_28 42 = .ok (.return_, 1) := by decide +kernel
theorem dr_29_0 : decode cr_29 0 = .ok (.iconst 0, 1) := by decide +kernel
theorem dr_29_1 : decode cr_29 1 = .ok (.istore_n 2, 1) := by decide +kernel
theorem dr_29_2 : decode cr_29 2 = .ok (.iload_n 2, 1) := by decide +kernel
theorem dr_29_3 : decode cr_29 3 = .ok (.aload_n 0, 1) := by decide +kernel
theorem dr_29_4 : decode cr_29 4 = .ok (.getfield 19, 3) := by decide +kernel
theorem dr_29_7 : decode cr_29 7 = .ok (.iload_n 1, 1) := by decide +kernel
theorem dr_29_8 : decode cr_29 8 = .ok (.iaload, 1) := by decide +kernel
theorem dr_29_9 : decode cr_29 9 = .ok (.if_icmp .ge (26), 3) := by decide +kernel
theorem dr_29_12 : decode cr_29 12 = .ok (.aload_n 0, 1) := by decide +kernel
theorem dr_29_13 : decode cr_29 13 = .ok (.aload_n 0, 1) := by decide +kernel
theorem dr_29_14 : decode cr_29 14 = .ok (.getfield 7, 3) := by decide +kernel
theorem dr_29_17 : decode cr_29 17 = .ok (.aload_n 0, 1) := by decide +kernel
theorem dr_29_18 : decode cr_29 18 = .ok (.getfield 16, 3) := by decide +kernel
theorem dr_29_21 : decode cr_29 21 = .ok (.iload_n 1, 1) := by decide +kernel
theorem dr_29_22 : decode cr_29 22 = .ok (.iaload, 1) := by decide +kernel
theorem dr_29_23 : decode cr_29 23 = .ok (.iload_n 2, 1) := by decide +kernel
theorem dr_29_24 : decode cr_29 24 = .ok (.iadd, 1) := by decide +kernel
theorem dr_29_25 : decode cr_29 25 = .ok (.iaload, 1) := by decide +kernel
theorem dr_29_26 : decode cr_29 26 = .ok (.invokevirtual 177, 3) := by decide +kernel
theorem dr_29_29 : decode cr_29 29 = .ok (.iinc 2 1, 3) := by decide +kernel
theorem dr_29_32 : decode cr_29 32 = .ok (.goto (-30), 3) := by decide +kernel
theorem dr_29_35 : decode cr_29 35 = .ok (.return_, 1) := by decide +kernel
theorem dr_30_0 : decode cr_30 0 = .ok (.iconst 0, 1) := by decide +kernel
theorem dr_30_1 : decode cr_30 1 = .ok (.istore_n 1, 1) := by decide +kernel
theorem dr_30_2 : decode cr_30 2 = .ok (.iload_n 1, 1) := by decide +kernel
theorem dr_30_3 : decode cr_30 3 = .ok (.aload_n 0, 1) := by decide +kernel
theorem dr_30_4 : decode cr_30 4 = .ok (.getfield 164, 3) := by decide +kernel
theorem dr_30_7 : decode cr_30 7 = .ok (.if_icmp .ge (19), 3) := by decide +kernel
theorem dr_30_10 : decode cr_30 10 = .ok (.aload_n 0, 1) := by decide +kernel
theorem dr_30_11 : decode cr_30 11 = .ok (.aload_n 0, 1) := by decide +kernel
theorem dr_30_12 : decode cr_30 12 = .ok (.getfield 66, 3) := by decide +kernel
theorem dr_30_15 : decode cr_30 15 = .ok (.iload_n 1, 1) := by decide +kernel
theorem dr_30_16 : decode cr_30 16 = .ok (.iaload, 1) := by decide +kernel
theorem dr_30_17 : decode cr_30 17 = .ok (.invokevirtual 177, 3) := by decide +kernel
theorem dr_30_20 : decode cr_30 20 = .ok (.iinc 1 1, 3) := by decide +kernel
theorem dr_30_23 : decode cr_30 23 = .ok (.goto (-21), 3) := by decide +kernel
theorem dr_30_26 : decode cr_30 26 = .ok (.return_, 1) := by decide +kernel
theorem dr_31_0 : decode cr_31 0 = .ok (.aload_n 0, 1) := by decide +kernel
theorem dr_31_1 : decode cr_31 1 = .ok (.getfield 41, 3) := by decide +kernel
theorem dr_31_4 : decode cr_31 4 = .ok (.aload_n 0, 1) := by decide +kernel
theorem dr_31_5 : decode cr_31 5 = .ok (.getfield 148, 3) := by decide +kernel
theorem dr_31_8 : decode cr_31 8 = .ok (.aload_n 0, 1) := by decide +kernel
theorem dr_31_9 : decode cr_31 9 = .ok (.getfield 180, 3) := by decide +kernel
theorem dr_31_12 : decode cr_31 12 = .ok (.iastore, 1) := by decide +kernel
theorem dr_31_13 : decode cr_31 13 = .ok (.aload_n 0, 1) := by decide +kernel
theorem dr_31_14 : decode cr_31 14 = .ok (.getfield 62, 3) := by decide +kernel
theorem dr_31_17 : decode cr_31 17 = .ok (.aload_n 0, 1) := by decide +kernel
theorem dr_31_18 : decode cr_31 18 = .ok (.getfield 148, 3) := by decide +kernel
theorem dr_31_21 : decode cr_31 21 = .ok (.aload_n 0, 1) := by decide +kernel
theorem dr_31_22 : decode cr_31 22 = .ok (.aload_n 0, 1) := by decide +kernel
theorem dr_31_23 : decode cr_31 23 = .ok (.getfield 16, 3) := by decide +kernel
theorem dr_31_26 : decode cr_31 26 = .ok (.aload_n 0, 1) := by decide +kernel
theorem dr_31_27 : decode cr_31 27 = .ok (.getfield 180, 3) := by decide +kernel
theorem dr_31_30 : decode cr_31 30 = .ok (.iaload, 1) := by decide +kernel
theorem dr_31_31 : decode cr_31 31 = .ok (.aload_n 0, 1) := by decide +kernel
theorem dr_31_32 : decode cr_31 32 = .ok (.getfield 19, 3) := by decide +kernel
theorem dr_31_35 : decode cr_31 35 = .ok (.aload_n 0, 1) := by decide +kernel
theorem dr_31_36 : decode cr_31 36 = .ok (.getfield 180, 3) := by decide +kernel
theorem dr_31_39 : decode cr_31 39 = .ok (.iaload, 1) := by decide +kernel
theorem dr_31_40 : decode cr_31 40 = .ok (.invokevirtual 111, 3) := by decide +kernel
theorem dr_31_43 : decode cr_31 43 = .ok (.lastore, 1) := by decide +kernel
theorem dr_31_44 : decode cr_31 44 = .ok (.aload_n 0, 1) := by decide +kernel
theorem dr_31_45 : decode cr_31 45 = .ok (.getfield 44, 3) := by decide +kernel
theorem dr_31_48 : decode cr_31 48 = .ok (.aload_n 0, 1) := by decide +kernel
theorem dr_31_49 : decode cr_31 49 = .ok (.getfield 148, 3) := by decide +kernel
theorem dr_31_52 : decode cr_31 52 = .ok (.aload_n 0, 1) := by decide +kernel
theorem dr_31_53 : decode cr_31 53 = .ok (.getfield 38, 3) := by decide +kernel
theorem dr_31_56 : decode cr_31 56 = .ok (.aload_n 0, 1) := by decide +kernel
theorem dr_31_57 : decode cr_31 57 = .ok (.getfield 145, 3) := by decide +kernel
theorem dr_31_60 : decode cr_31 60 = .ok (.iconst 1, 1) := by decide +kernel
theorem dr_31_61 : decode cr_31 61 = .ok (.isub, 1) := by decide +kernel
theorem dr_31_62 : decode cr_31 62 = .ok (.iaload, 1) := by decide +kernel
theorem dr_31_63 : decode cr_31 63 = .ok (.iastore, 1) := by decide +kernel
theorem dr_31_64 : decode cr_31 64 = .ok (.aload_n 0, 1) := by decide +kernel
theorem dr_31_65 : decode cr_31 65 = .ok (.getfield 47, 3) := by decide +kernel
theorem dr_31_68 : decode cr_31 68 = .ok (.aload_n 0, 1) := by decide +kernel
theorem dr_31_69 : decode cr_31 69 = .ok (.getfield 148, 3) := by decide +kernel
theorem dr_31_72 : decode cr_31 72 = .ok (.aload_n 0, 1) := by decide +kernel
theorem dr_31_73 : decode cr_31 73 = .ok (.getfield 145, 3) := by decide +kernel
theorem dr_31_76 : decode cr_31 76 = .ok (.iastore, 1) := by decide +kernel
theorem dr_31_77 : decode cr_31 77 = .ok (.aload_n 0, 1) := by decide +kernel
theorem dr_31_78 : decode cr_31 78 = .ok (.getfield 50, 3) := by decide +kernel
theorem dr_31_81 : decode cr_31 81 = .ok (.aload_n 0, 1) := by decide +kernel
theorem dr_31_82 : decode cr_31 82 = .ok (.getfield 148, 3) := by decide +kernel
theorem dr_31_85 : decode cr_31 85 = .ok (.iload_n 1, 1) := by decide +kernel
theorem dr_31_86 : decode cr_31 86 = .ok (.ifCond .eq (7), 3) := by decide +kernel
theorem dr_31_89 : decode cr_31 89 = .ok (.iconst 1, 1) := by decide +kernel
theorem dr_31_90 : decode cr_31 90 = .ok (.goto (22), 3) := by decide +kernel
theorem dr_31_93 : decode cr_31 93 = .ok (.aload_n 0, 1) := by decide +kernel
theorem dr_31_94 : decode cr_31 94 = .ok (.getfield 66, 3) := by decide +kernel
theorem dr_31_97 : decode cr_31 97 = .ok (.aload_n 0, 1) := by decide +kernel
theorem dr_31_98 : decode cr_31 98 = .ok (.getfield 183, 3) := by decide +kernel
theorem dr_31_101 : decode cr_31 101 = .ok (.iaload, 1) := by decide +kernel
theorem dr_31_102 : decode cr_31 102 = .ok (.bipush 40, 2) := by decide +kernel
theorem dr_31_104 : decode cr_31 104 = .ok (.if_icmp .ne (7), 3) := by decide +kernel
theorem dr_31_107 : decode cr_31 107 = .ok (.iconst 2, 1) := by decide +kernel
theorem dr_31_108 : decode cr_31 108 = .ok (.goto (4), 3) := by decide +kernel
theorem dr_31_111 : decode cr_31 111 = .ok (.iconst 0, 1) := by decide +kernel
theorem dr_31_112 : decode cr_31 112 = .ok (.iastore, 1) := by decide +kernel
theorem dr_31_113 : decode cr_31 113 = .ok (.aload_n 0, 1) := by decide +kernel
theorem dr_31_114 : decode cr_31 114 = .ok (.getfield 53, 3) := by decide +kernel
theorem dr_31_117 : decode cr_31 117 = .ok (.aload_n 0, 1) := by decide +kernel
theorem dr_31_118 : decode cr_31 118 = .ok (.getfield 148, 3) := by decide +kernel
theorem dr_31_121 : decode cr_31 121 = .ok (.aload_n 0, 1) := by decide +kernel
theorem dr_31_122 : decode cr_31 122 = .ok (.getfield 186, 3) := by decide +kernel
theorem dr_31_125 : decode cr_31 125 = .ok (.iastore, 1) := by decide +kernel
theorem dr_31_126 : decode cr_31 126 = .ok (.aload_n 0, 1) := by decide +kernel
theorem dr_31_127 : decode cr_31 127 = .ok (.getfield 56, 3) := by decide +kernel
theorem dr_31_130 : decode cr_31 130 = .ok (.aload_n 0, 1) := by decide +kernel
theorem dr_31_131 : decode cr_31 131 = .ok (.getfield 148, 3) := by decide +kernel
theorem dr_31_134 : decode cr_31 134 = .ok (.aload_n 0, 1) := by decide +kernel
theorem dr_31_135 : decode cr_31 135 = .ok (.getfield 164, 3) := by decide +kernel
theorem dr_31_138 : decode cr_31 138 = .ok (.aload_n 0, 1) := by decide +kernel
theorem dr_31_139 : decode cr_31 139 = .ok (.getfield 183, 3) := by decide +kernel
theorem dr_31_142 : decode cr_31 142 = .ok (.isub, 1) := by decide +kernel
theorem dr_31_143 : decode cr_31 143 = .ok (.iastore, 1) := by decide +kernel
theorem dr_31_144 : decode cr_31 144 = .ok (.aload_n 0, 1) := by decide +kernel
theorem dr_31_145 : decode cr_31 145 = .ok (.getfield 183, 3) := by decide +kernel
theorem dr_31_148 : decode cr_31 148 = .ok (.istore_n 2, 1) := by decide +kernel
theorem dr_31_149 : decode cr_31 149 = .ok (.iload_n 2, 1) := by decide +kernel
theorem dr_31_150 : decode cr_31 150 = .ok (.aload_n 0, 1) := by decide +kernel
theorem dr_31_151 : decode cr_31 151 = .ok (.getfield 164, 3) := by decide +kernel
theorem dr_31_154 : decode cr_31 154 = .ok (.if_icmp .ge (34), 3) := by decide +kernel
theorem dr_31_157 : decode cr_31 157 = .ok (.aload_n 0, 1) := by decide +kernel
theorem dr_31_158 : decode cr_31 158 = .ok (.getfield 59, 3) := by decide +kernel
theorem dr_31_161 : decode cr_31 161 = .ok (.aload_n 0, 1) := by decide +kernel
theorem dr_31_162 : decode cr_31 162 = .ok (.getfield 186, 3) := by decide +kernel
theorem dr_31_165 : decode cr_31 165 = .ok (.aload_n 0, 1) := by decide +kernel
theorem dr_31_166 : decode cr_31 166 = .ok (.getfield 66, 3) := by decide +kernel
theorem dr_31_169 : decode cr_31 169 = .ok (.iload_n 2, 1) := by decide +kernel
theorem dr_31_170 : decode cr_31 170 = .ok (.iaload, 1) := by decide +kernel
theorem dr_31_171 : decode cr_31 171 = .ok (.iastore, 1) := by decide +kernel
theorem dr_31_172 : decode cr_31 172 = .ok (.aload_n 0, 1) := by decide +kernel
theorem dr_31_173 : decode cr_31 173 = .ok (.dup, 1) := by decide +kernel
theorem dr_31_174 : decode cr_31 174 = .ok (.getfield 186, 3) := by decide +kernel
theorem dr_31_177 : decode cr_31 177 = .ok (.iconst 1, 1) := by decide +kernel
theorem dr_31_178 : decode cr_31 178 = .ok (.iadd, 1) := by decide +kernel
theorem dr_31_179 : decode cr_31 179 = .ok (.putfield 186, 3) := by decide +kernel
theorem dr_31_182 : decode cr_31 182 = .ok (.iinc 2 1, 3) := by decide +kernel
theorem dr_31_185 : decode cr_31 185 = .ok (.goto (-36), 3) := by decide +kernel
theorem dr_31_188 : decode cr_31 188 = .ok (.aload_n 0, 1) := by decide +kernel
theorem dr_31_189 : decode cr_31 189 = .ok (.getfield 22, 3) := by decide +kernel
theorem dr_31_192 : decode cr_31 192 = .ok (.aload_n 0, 1) := by decide +kernel
theorem dr_31_193 : decode cr_31 193 = .ok (.getfield 180, 3) := by decide +kernel
theorem dr_31_196 : decode cr_31 196 = .ok (.iload_n 1, 1) := by decide +kernel
theorem dr_31_197 : decode cr_31 197 = .ok (.ifCond .eq (7), 3) := by decide +kernel
theorem dr_31_200 : decode cr_31 200 = .ok (.iconst 3, 1) := by decide +kernel
theorem dr_31_201 : decode cr_31 201 = .ok (.goto (4), 3) := by decide +kernel
theorem dr_31_204 : decode cr_31 204 = .ok (.iconst 4, 1) := by decide +kernel
theorem dr_31_205 : decode cr_31 205 = .ok (.iastore, 1) := by decide +kernel
theorem dr_31_206 : decode cr_31 206 = .ok (.aload_n 0, 1) := by decide +kernel
theorem dr_31_207 : decode cr_31 207 = .ok (.getfield 25, 3) := by decide +kernel
theorem dr_31_210 : decode cr_31 210 = .ok (.aload_n 0, 1) := by decide +kernel
theorem dr_31_211 : decode cr_31 211 = .ok (.getfield 180, 3) := by decide +kernel
theorem dr_31_214 : decode cr_31 214 = .ok (.aload_n 0, 1) := by decide +kernel
theorem dr_31_215 : decode cr_31 215 = .ok (.getfield 148, 3) := by decide +kernel
theorem dr_31_218 : decode cr_31 218 = .ok (.iastore, 1) := by decide +kernel
theorem dr_31_219 : decode cr_31 219 = .ok (.aload_n 0, 1) := by decide +kernel
theorem dr_31_220 : decode cr_31 220 = .ok (.dup, 1) := by decide +kernel
theorem dr_31_221 : decode cr_31 221 = .ok (.getfield 148, 3) := by decide +kernel
theorem dr_31_224 : decode cr_31 224 = .ok (.iconst 1, 1) := by decide +kernel
theorem dr_31_225 : decode cr_31 225 = .ok (.iadd, 1) := by decide +kernel
theorem dr_31_226 : decode cr_31 226 = .ok (.putfield 148, 3) := by decide +kernel
theorem dr_31_229 : decode cr_31 229 = .ok (.return_, 1) := by decide +kernel
theorem dr_32_0 : decode cr_32 0 = .ok (.aload_n 0, 1) := by decide +kernel
theorem dr_32_1 : decode cr_32 1 = .ok (.iconst 4, 1) := by decide +kernel
theorem dr_32_2 : decode cr_32 2 = .ok (.invokevirtual 142, 3) := by decide +kernel
theorem dr_32_5 : decode cr_32 5 = .ok (.istore_n 2, 1) := by decide +kernel
theorem dr_32_6 : decode cr_32 6 = .ok (.iload_n 2, 1) := by decide +kernel
theorem dr_32_7 : decode cr_32 7 = .ok (.ifCond .eq (13), 3) := by decide +kernel
theorem dr_32_10 : decode cr_32 10 = .ok (.aload_n 0, 1) := by decide +kernel
theorem dr_32_11 : decode cr_32 11 = .ok (.dup, 1) := by decide +kernel
theorem dr_32_12 : decode cr_32 12 = .ok (.getfield 133, 3) := by decide +kernel
theorem dr_32_15 : decode cr_32 15 = .ok (.iconst 1, 1) := by decide +kernel
theorem dr_32_16 : decode cr_32 16 = .ok (.iadd, 1) := by decide +kernel
theorem dr_32_17 : decode cr_32 17 = .ok (.putfield 133, 3) := by decide +kernel
theorem dr_32_20 : decode cr_32 20 = .ok (.aload_n 0, 1) := by decide +kernel
theorem dr_32_21 : decode cr_32 21 = .ok (.invokevirtual 189, 3) := by decide +kernel
theorem dr_32_24 : decode cr_32 24 = .ok (.istore_n 3, 1) := by decide +kernel
theorem dr_32_25 : decode cr_32 25 = .ok (.aload_n 0, 1) := by decide +kernel
theorem dr_32_26 : decode cr_32 26 = .ok (.getfield 129, 3) := by decide +kernel
theorem dr_32_29 : decode cr_32 29 = .ok (.ifCond .eq (4), 3) := by decide +kernel
theorem dr_32_32 : decode cr_32 32 = .ok (.return_, 1) := by decide +kernel
theorem dr_32_33 : decode cr_32 33 = .ok (.iload_n 2, 1) := by decide +kernel
theorem dr_32_34 : decode cr_32 34 = .ok (.ifCond .ne (23), 3) := by decide +kernel
theorem dr_32_37 : decode cr_32 37 = .ok (.aload_n 0, 1) := by decide +kernel
theorem dr_32_38 : decode cr_32 38 = .ok (.iconst 4, 1) := by decide +kernel
theorem dr_32_39 : decode cr_32 39 = .ok (.invokevirtual 142, 3) := by decide +kernel
theorem dr_32_42 : decode cr_32 42 = .ok (.ifCond .eq (15), 3) := by decide +kernel
theorem dr_32_45 : decode cr_32 45 = .ok (.iconst 1, 1) := by decide +kernel
theorem dr_32_46 : decode cr_32 46 = .ok (.istore_n 2, 1) := by decide +kernel
theorem dr_32_47 : decode cr_32 47 = .ok (.aload_n 0, 1) := by decide +kernel
theorem dr_32_48 : decode cr_32 48 = .ok (.dup, 1) := by decide +kernel
theorem dr_32_49 : decode cr_32 49 = .ok (.getfield 133, 3) := by decide +kernel
theorem dr_32_52 : decode cr_32 52 = .ok (.iconst 1, 1) := by decide +kernel
theorem dr_32_53 : decode cr_32 53 = .ok (.iadd, 1) := by decide +kernel
theorem dr_32_54 : decode cr_32 54 = .ok (.putfield 133, 3) := by decide +kernel
theorem dr_32_57 : decode cr_32 57 = .ok (.aload_n 0, 1) := by decide +kernel
theorem dr_32_58 : decode cr_32 58 = .ok (.bipush 59, 2) := by decide +kernel
theorem dr_32_60 : decode cr_32 60 = .ok (.invokevirtual 142, 3) := by decide +kernel
theorem dr_32_63 : decode cr_32 63 = .ok (.ifCond .eq (14), 3) := by decide +kernel
theorem dr_32_66 : decode cr_32 66 = .ok (.aload_n 0, 1) := by decide +kernel
theorem dr_32_67 : decode cr_32 67 = .ok (.dup, 1) := by decide +kernel
theorem dr_32_68 : decode cr_32 68 = .ok (.getfield 133, 3) := by decide +kernel
theorem dr_32_71 : decode cr_32 71 = .ok (.iconst 1, 1) := by decide +kernel
theorem dr_32_72 : decode cr_32 72 = .ok (.iadd, 1) := by decide +kernel
theorem dr_32_73 : decode cr_32 73 = .ok (.putfield 133, 3) := by decide +kernel
theorem dr_32_76 : decode cr_32 76 = .ok (.return_, 1) := by decide +kernel
theorem dr_32_77 : decode cr_32 77 = .ok (.aload_n 0, 1) := by decide +kernel
theorem dr_32_78 : decode cr_32 78 = .ok (.iconst 4, 1) := by decide +kernel
theorem dr_32_79 : decode cr_32 79 = .ok (.iload_n 3, 1) := by decide +kernel
theorem dr_32_80 : decode cr_32 80 = .ok (.imul, 1) := by decide +kernel
theorem dr_32_81 : decode cr_32 81 = .ok (.iload_n 2, 1) := by decide +kernel
theorem dr_32_82 : decode cr_32 82 = .ok (.ifCond .eq (7), 3) := by decide +kernel
theorem dr_32_85 : decode cr_32 85 = .ok (.iconst 2, 1) := by decide +kernel
theorem dr_32_86 : decode cr_32 86 = .ok (.goto (4), 3) := by decide +kernel
theorem dr_32_89 : decode cr_32 89 = .ok (.iconst 0, 1) := by decide +kernel
theorem dr_32_90 : decode cr_32 90 = .ok (.iadd, 1) := by decide +kernel
theorem dr_32_91 : decode cr_32 91 = .ok (.iload_n 1, 1) := by decide +kernel
theorem dr_32_92 : decode cr_32 92 = .ok (.iconst 1, 1) := by decide +kernel
theorem dr_32_93 : decode cr_32 93 = .ok (.if_icmp .ne (11), 3) := by decide +kernel
theorem dr_32_96 : decode cr_32 96 = .ok (.iload_n 2, 1) := by decide +kernel
theorem dr_32_97 : decode cr_32 97 = .ok (.ifCond .ne (7), 3) := by decide +kernel
theorem dr_32_100 : decode cr_32 100 = .ok (.iconst 1, 1) := by decide +kernel
theorem dr_32_101 : decode cr_32 101 = .ok (.goto (4), 3) := by decide +kernel
theorem dr_32_104 : decode cr_32 104 = .ok (.iconst 0, 1) := by decide +kernel
theorem dr_32_105 : decode cr_32 105 = .ok (.iadd, 1) := by decide +kernel
theorem dr_32_106 : decode cr_32 106 = .ok (.invokevirtual 193, 3) := by decide +kernel
theorem dr_32_109 : decode cr_32 109 = .ok (.return_, 1) := by decide +kernel
theorem dr_33_0 : decode cr_33 0 = .ok (.aload_n 0, 1) := by decide +kernel
theorem dr_33_1 : decode cr_33 1 = .ok (.iconst 0, 1) := by decide +kernel
theorem dr_33_2 : decode cr_33 2 = .ok (.putfield 164, 3) := by decide +kernel
theorem dr_33_5 : decode cr_33 5 = .ok (.aload_n 0, 1) := by decide +kernel
theorem dr_33_6 : decode cr_33 6 = .ok (.iconst 0, 1) := by decide +kernel
theorem dr_33_7 : decode cr_33 7 = .ok (.putfield 183, 3) := by decide +kernel
theorem dr_33_10 : decode cr_33 10 = .ok (.aload_n 0, 1) := by decide +kernel
theorem dr_33_11 : decode cr_33 11 = .ok (.iconst (-1), 1) := by decide +kernel
theorem dr_33_12 : decode cr_33 12 = .ok (.putfield 180, 3) := by decide +kernel
theorem dr_33_15 : decode cr_33 15 = .ok (.aload_n 0, 1) := by decide +kernel
theorem dr_33_16 : decode cr_33 16 = .ok (.iconst (-1), 1) := by decide +kernel
theorem dr_33_17 : decode cr_33 17 = .ok (.putfield 196, 3) := by decide +kernel
theorem dr_33_20 : decode cr_33 20 = .ok (.aload_n 0, 1) := by decide +kernel
theorem dr_33_21 : decode cr_33 21 = .ok (.iconst 3, 1) := by decide +kernel
theorem dr_33_22 : decode cr_33 22 = .ok (.iload_n 1, 1) := by decide +kernel
theorem dr_33_23 : decode cr_33 23 = .ok (.invokevirtual 199, 3) := by decide +kernel
theorem dr_33_26 : decode cr_33 26 = .ok (.aload_n 0, 1) := by decide +kernel
theorem dr_33_27 : decode cr_33 27 = .ok (.bipush 6, 2) := by decide +kernel
theorem dr_33_29 : decode cr_33 29 = .ok (.iconst 0, 1) := by decide +kernel
theorem dr_33_30 : decode cr_33 30 = .ok (.invokevirtual 199, 3) := by decide +kernel
theorem dr_33_33 : decode cr_33 33 = .ok (.return_, 1) := by decide +kernel
theorem dr_34_0 : decode cr_34 0 = .ok (.iload_n 1, 1) := by decide +kernel
theorem dr_34_1 : decode cr_34 1 = .ok (.iconst 2, 1) := by decide +kernel
theorem dr_34_2 : decode cr_34 2 = .ok (.iand, 1) := by decide +kernel
theorem dr_34_3 : decode cr_34 3 = .ok (.ifCond .eq (7), 3) := by decide +kernel
theorem dr_34_6 : decode cr_34 6 = .ok (.iconst 1, 1) := by decide +kernel
theorem dr_34_7 : decode cr_34 7 = .ok (.goto (4), 3) := by decide +kernel
theorem dr_34_10 : decode cr_34 10 = .ok (.iconst 0, 1) := by decide +kernel
theorem dr_34_11 : decode cr_34 11 = .ok (.istore_n 2, 1) := by decide +kernel
theorem dr_34_12 : decode cr_34 12 = .ok (.aload_n 0, 1) := by decide +kernel
theorem dr_34_13 : decode cr_34 13 = .ok (.iload_n 1, 1) := by decide +kernel
theorem dr_34_14 : decode cr_34 14 = .ok (.iconst 2, 1) := by decide +kernel
theorem dr_34_15 : decode cr_34 15 = .ok (.ishr, 1) := by decide +kernel
theorem dr_34_16 : decode cr_34 16 = .ok (.invokevirtual 203, 3) := by decide +kernel
theorem dr_34_19 : decode cr_34 19 = .ok (.aload_n 0, 1) := by decide +kernel
theorem dr_34_20 : decode cr_34 20 = .ok (.iload_n 2, 1) := by decide +kernel
theorem dr_34_21 : decode cr_34 21 = .ok (.invokevirtual 206, 3) := by decide +kernel
theorem dr_34_24 : decode cr_34 24 = .ok (.iload_n 2, 1) := by decide +kernel
theorem dr_34_25 : decode cr_34 25 = .ok (.ifCond .eq (9), 3) := by decide +kernel
theorem dr_34_28 : decode cr_34 28 = .ok (.aload_n 0, 1) := by decide +kernel
theorem dr_34_29 : decode cr_34 29 = .ok (.bipush 35, 2) := by decide +kernel
theorem dr_34_31 : decode cr_34 31 = .ok (.invokevirtual 177, 3) := by decide +kernel
theorem dr_34_34 : decode cr_34 34 = .ok (.aload_n 0, 1) := by decide +kernel
theorem dr_34_35 : decode cr_34 35 = .ok (.aload_n 0, 1) := by decide +kernel
theorem dr_34_36 : decode cr_34 36 = .ok (.getfield 180, 3) := by decide +kernel
theorem dr_34_39 : decode cr_34 39 = .ok (.invokevirtual 210, 3) := by decide +kernel
theorem dr_34_42 : decode cr_34 42 = .ok (.aload_n 0, 1) := by decide +kernel
theorem dr_34_43 : decode cr_34 43 = .ok (.bipush 58, 2) := by decide +kernel
theorem dr_34_45 : decode cr_34 45 = .ok (.invokevirtual 177, 3) := by decide +kernel
theorem dr_34_48 : decode cr_34 48 = .ok (.aload_n 0, 1) := by decide +kernel
theorem dr_34_49 : decode cr_34 49 = .ok (.invokevirtual 213, 3) := by decide +kernel
theorem dr_34_52 : decode cr_34 52 = .ok (.aload_n 0, 1) := by decide +kernel
theorem dr_34_53 : decode cr_34 53 = .ok (.bipush 123, 2) := by decide +kernel
theorem dr_34_55 : decode cr_34 55 = .ok (.invokevirtual 142, 3) := by decide +kernel
theorem dr_34_58 : decode cr_34 58 = .ok (.ifCond .eq (36), 3) := by decide +kernel
theorem dr_34_61 : decode cr_34 61 = .ok (.iload_n 1, 1) := by decide +kernel
theorem dr_34_62 : decode cr_34 62 = .ok (.iconst 1, 1) := by decide +kernel
theorem dr_34_63 : decode cr_34 63 = .ok (.iand, 1) := by decide +kernel
theorem dr_34_64 : decode cr_34 64 = .ok (.iconst 1, 1) := by decide +kernel
theorem dr_34_65 : decode cr_34 65 = .ok (.if_icmp .ne (29), 3) := by decide +kernel
theorem dr_34_68 : decode cr_34 68 = .ok (.aload_n 0, 1) := by decide +kernel
theorem dr_34_69 : decode cr_34 69 = .ok (.getfield 50, 3) := by decide +kernel
theorem dr_34_72 : decode cr_34 72 = .ok (.aload_n 0, 1) := by decide +kernel
theorem dr_34_73 : decode cr_34 73 = .ok (.getfield 148, 3) := by decide +kernel
theorem dr_34_76 : decode cr_34 76 = .ok (.iconst 1, 1) := by decide +kernel
theorem dr_34_77 : decode cr_34 77 = .ok (.isub, 1) := by decide +kernel
theorem dr_34_78 : decode cr_34 78 = .ok (.iaload, 1) := by decide +kernel
theorem dr_34_79 : decode cr_34 79 = .ok (.iconst 2, 1) := by decide +kernel
theorem dr_34_80 : decode cr_34 80 = .ok (.if_icmp .ne (14), 3) := by decide +kernel
theorem dr_34_83 : decode cr_34 83 = .ok (.aload_n 0, 1) := by decide +kernel
theorem dr_34_84 : decode cr_34 84 = .ok (.bipush 15, 2) := by decide +kernel
theorem dr_34_86 : decode cr_34 86 = .ok (.aload_n 0, 1) := by decide +kernel
theorem dr_34_87 : decode cr_34 87 = .ok (.getfield 196, 3) := by decide +kernel
theorem dr_34_90 : decode cr_34 90 = .ok (.invokevirtual 199, 3) := by decide +kernel
theorem dr_34_93 : decode cr_34 93 = .ok (.return_, 1) := by decide +kernel
theorem dr_34_94 : decode cr_34 94 = .ok (.aload_n 0, 1) := by decide +kernel
theorem dr_34_95 : decode cr_34 95 = .ok (.iconst 5, 1) := by decide +kernel
theorem dr_34_96 : decode cr_34 96 = .ok (.iload_n 1, 1) := by decide +kernel
theorem dr_34_97 : decode cr_34 97 = .ok (.bipush (-2), 2) := by decide +kernel
theorem dr_34_99 : decode cr_34 99 = .ok (.iand, 1) := by decide +kernel
theorem dr_34_100 : decode cr_34 100 = .ok (.invokevirtual 199, 3) := by decide +kernel
theorem dr_34_103 : decode cr_34 103 = .ok (.aload_n 0, 1) := by decide +kernel
theorem dr_34_104 : decode cr_34 104 = .ok (.bipush 61, 2) := by decide +kernel
theorem dr_34_106 : decode cr_34 106 = .ok (.invokevirtual 142, 3) := by decide +kernel
theorem dr_34_109 : decode cr_34 109 = .ok (.ifCond .eq (28), 3) := by decide +kernel
theorem dr_34_112 : decode cr_34 112 = .ok (.aload_n 0, 1) := by decide +kernel
theorem dr_34_113 : decode cr_34 113 = .ok (.dup, 1) := by decide +kernel
theorem dr_34_114 : decode cr_34 114 = .ok (.getfield 133, 3) := by decide +kernel
theorem dr_34_117 : decode cr_34 117 = .ok (.iconst 1, 1) := by decide +kernel
theorem dr_34_118 : decode cr_34 118 = .ok (.iadd, 1) := by decide +kernel
theorem dr_34_119 : decode cr_34 119 = .ok (.putfield 133, 3) := by decide +kernel
theorem dr_34_122 : decode cr_34 122 = .ok (.aload_n 0, 1) := by decide +kernel
theorem dr_34_123 : decode cr_34 123 = .ok (.bipush 19, 2) := by decide +kernel
theorem dr_34_125 : decode cr_34 125 = .ok (.bipush 61, 2) := by decide +kernel
theorem dr_34_127 : decode cr_34 127 = .ok (.invokevirtual 199, 3) := by decide +kernel
theorem dr_34_130 : decode cr_34 130 = .ok (.aload_n 0, 1) := by decide +kernel
theorem dr_34_131 : decode cr_34 131 = .ok (.bipush 22, 2) := by decide +kernel
theorem dr_34_133 : decode cr_34 133 = .ok (.iconst 0, 1) := by decide +kernel
theorem dr_34_134 : decode cr_34 134 = .ok (.invokevirtual 199, 3) := by decide +kernel
theorem dr_34_137 : decode cr_34 137 = .ok (.return_, 1) := by decide +kernel
theorem dr_35_0 : decode cr_35 0 = .ok (.aload_n 0, 1) := by decide +kernel
theorem dr_35_1 : decode cr_35 1 = .ok (.bipush 59, 2) := by decide +kernel
theorem dr_35_3 : decode cr_35 3 = .ok (.invokevirtual 177, 3) := by decide +kernel
theorem dr_35_6 : decode cr_35 6 = .ok (.aload_n 0, 1) := by decide +kernel
theorem dr_35_7 : decode cr_35 7 = .ok (.bipush 44, 2) := by decide +kernel
theorem dr_35_9 : decode cr_35 9 = .ok (.invokevirtual 142, 3) := by decide +kernel
theorem dr_35_12 : decode cr_35 12 = .ok (.ifCond .eq (21), 3) := by decide +kernel
theorem dr_35_15 : decode cr_35 15 = .ok (.aload_n 0, 1) := by decide +kernel
theorem dr_35_16 : decode cr_35 16 = .ok (.dup, 1) := by decide +kernel
theorem dr_35_17 : decode cr_35 17 = .ok (.getfield 133, 3) := by decide +kernel
theorem dr_35_20 : decode cr_35 20 = .ok (.iconst 1, 1) := by decide +kernel
theorem dr_35_21 : decode cr_35 21 = .ok (.iadd, 1) := by decide +kernel
theorem dr_35_22 : decode cr_35 22 = .ok (.putfield 133, 3) := by decide +kernel
theorem dr_35_25 : decode cr_35 25 = .ok (.aload_n 0, 1) := by decide +kernel
theorem dr_35_26 : decode cr_35 26 = .ok (.iload_n 1, 1) := by decide +kernel
theorem dr_35_27 : decode cr_35 27 = .ok (.invokevirtual 193, 3) := by decide +kernel
theorem dr_35_30 : decode cr_35 30 = .ok (.goto (10), 3) := by decide +kernel
theorem dr_35_33 : decode cr_35 33 = .ok (.aload_n 0, 1) := by decide +kernel
theorem dr_35_34 : decode cr_35 34 = .ok (.bipush 59, 2) := by decide +kernel
theorem dr_35_36 : decode cr_35 36 = .ok (.iconst 0, 1) := by decide +kernel
theorem dr_35_37 : decode cr_35 37 = .ok (.invokevirtual 216, 3) := by decide +kernel
theorem dr_35_40 : decode cr_35 40 = .ok (.return_, 1) := by decide +kernel
theorem dr_36_0 : decode cr_36 0 = .ok (.aload_n 0, 1) := by decide +kernel
theorem dr_36_1 : decode cr_36 1 = .ok (.invokevirtual 220, 3) := by decide +kernel
theorem dr_36_4 : decode cr_36 4 = .ok (.istore_n 2, 1) := by decide +kernel
theorem dr_36_5 : decode cr_36 5 = .ok (.aload_n 0, 1) := by decide +kernel
theorem dr_36_6 : decode cr_36 6 = .ok (.bipush 40, 2) := by decide +kernel
theorem dr_36_8 : decode cr_36 8 = .ok (.invokevirtual 142, 3) := by decide +kernel
theorem dr_36_11 : decode cr_36 11 = .ok (.ifCond .eq (52), 3) := by decide +kernel
theorem dr_36_14 : decode cr_36 14 = .ok (.iload_n 1, 1) := by decide +kernel
theorem dr_36_15 : decode cr_36 15 = .ok (.ifCond .eq (44), 3) := by decide +kernel
theorem dr_36_18 : decode cr_36 18 = .ok (.iload_n 2, 1) := by decide +kernel
theorem dr_36_19 : decode cr_36 19 = .ok (.bipush 42, 2) := by decide +kernel
theorem dr_36_21 : decode cr_36 21 = .ok (.if_icmp .eq (38), 3) := by decide +kernel
theorem dr_36_24 : decode cr_36 24 = .ok (.iload_n 2, 1) := by decide +kernel
theorem dr_36_25 : decode cr_36 25 = .ok (.bipush 40, 2) := by decide +kernel
theorem dr_36_27 : decode cr_36 27 = .ok (.if_icmp .eq (32), 3) := by decide +kernel
theorem dr_36_30 : decode cr_36 30 = .ok (.iload_n 2, 1) := by decide +kernel
theorem dr_36_31 : decode cr_36 31 = .ok (.bipush 91, 2) := by decide +kernel
theorem dr_36_33 : decode cr_36 33 = .ok (.if_icmp .eq (26), 3) := by decide +kernel
theorem dr_36_36 : decode cr_36 36 = .ok (.iload_n 1, 1) := by decide +kernel
theorem dr_36_37 : decode cr_36 37 = .ok (.iconst 1, 1) := by decide +kernel
theorem dr_36_38 : decode cr_36 38 = .ok (.if_icmp .ne (25), 3) := by decide +kernel
theorem dr_36_41 : decode cr_36 41 = .ok (.iload_n 2, 1) := by decide +kernel
theorem dr_36_42 : decode cr_36 42 = .ok (.iconst 1, 1) := by decide +kernel
theorem dr_36_43 : decode cr_36 43 = .ok (.if_icmp .ne (20), 3) := by decide +kernel
theorem dr_36_46 : decode cr_36 46 = .ok (.aload_n 0, 1) := by decide +kernel
theorem dr_36_47 : decode cr_36 47 = .ok (.aload_n 0, 1) := by decide +kernel
theorem dr_36_48 : decode cr_36 48 = .ok (.getfield 133, 3) := by decide +kernel
theorem dr_36_51 : decode cr_36 51 = .ok (.iconst 1, 1) := by decide +kernel
theorem dr_36_52 : decode cr_36 52 = .ok (.iadd, 1) := by decide +kernel
theorem dr_36_53 : decode cr_36 53 = .ok (.invokevirtual 155, 3) := by decide +kernel
theorem dr_36_56 : decode cr_36 56 = .ok (.ifCond .ne (7), 3) := by decide +kernel
theorem dr_36_59 : decode cr_36 59 = .ok (.iconst 1, 1) := by decide +kernel
theorem dr_36_60 : decode cr_36 60 = .ok (.goto (4), 3) := by decide +kernel
theorem dr_36_63 : decode cr_36 63 = .ok (.iconst 0, 1) := by decide +kernel
theorem dr_36_64 : decode cr_36 64 = .ok (.ireturn, 1) := by decide +kernel
theorem dr_37_0 : decode cr_37 0 = .ok (.iconst 0, 1) := by decide +kernel
theorem dr_37_1 : decode cr_37 1 = .ok (.istore_n 2, 1) := by decide +kernel
theorem dr_37_2 : decode cr_37 2 = .ok (.aload_n 0, 1) := by decide +kernel
theorem dr_37_3 : decode cr_37 3 = .ok (.bipush 42, 2) := by decide +kernel
theorem dr_37_5 : decode cr_37 5 = .ok (.invokevirtual 142, 3) := by decide +kernel
theorem dr_37_8 : decode cr_37 8 = .ok (.ifCond .eq (19), 3) := by decide +kernel
theorem dr_37_11 : decode cr_37 11 = .ok (.iinc 2 1, 3) := by decide +kernel
theorem dr_37_14 : decode cr_37 14 = .ok (.aload_n 0, 1) := by decide +kernel
theorem dr_37_15 : decode cr_37 15 = .ok (.dup, 1) := by decide +kernel
theorem dr_37_16 : decode cr_37 16 = .ok (.getfield 133, 3) := by decide +kernel
theorem dr_37_19 : decode cr_37 19 = .ok (.iconst 1, 1) := by decide +kernel
theorem dr_37_20 : decode cr_37 20 = .ok (.iadd, 1) := by decide +kernel
theorem dr_37_21 : decode cr_37 21 = .ok (.putfield 133, 3) := by decide +kernel
theorem dr_37_24 : decode cr_37 24 = .ok (.goto (-22), 3) := by decide +kernel
theorem dr_37_27 : decode cr_37 27 = .ok (.aload_n 0, 1) := by decide +kernel
theorem dr_37_28 : decode cr_37 28 = .ok (.bipush 8, 2) := by decide +kernel
theorem dr_37_30 : decode cr_37 30 = .ok (.iload_n 2, 1) := by decide +kernel
theorem dr_37_31 : decode cr_37 31 = .ok (.invokevirtual 199, 3) := by decide +kernel
theorem dr_37_34 : decode cr_37 34 = .ok (.aload_n 0, 1) := by decide +kernel
theorem dr_37_35 : decode cr_37 35 = .ok (.bipush 7, 2) := by decide +kernel
theorem dr_37_37 : decode cr_37 37 = .ok (.iconst 0, 1) := by decide +kernel
theorem dr_37_38 : decode cr_37 38 = .ok (.invokevirtual 199, 3) := by decide +kernel
theorem dr_37_41 : decode cr_37 41 = .ok (.aload_n 0, 1) := by decide +kernel
theorem dr_37_42 : decode cr_37 42 = .ok (.iconst 1, 1) := by decide +kernel
theorem dr_37_43 : decode cr_37 43 = .ok (.invokevirtual 142, 3) := by decide +kernel
theorem dr_37_46 : decode cr_37 46 = .ok (.ifCond .eq (45), 3) := by decide +kernel
theorem dr_37_49 : decode cr_37 49 = .ok (.iload_n 1, 1) := by decide +kernel
theorem dr_37_50 : decode cr_37 50 = .ok (.iconst 2, 1) := by decide +kernel
theorem dr_37_51 : decode cr_37 51 = .ok (.if_icmp .ge (40), 3) := by decide +kernel
theorem dr_37_54 : decode cr_37 54 = .ok (.aload_n 0, 1) := by decide +kernel
theorem dr_37_55 : decode cr_37 55 = .ok (.aload_n 0, 1) := by decide +kernel
theorem dr_37_56 : decode cr_37 56 = .ok (.getfield 133, 3) := by decide +kernel
theorem dr_37_59 : decode cr_37 59 = .ok (.invokevirtual 223, 3) := by decide +kernel
theorem dr_37_62 : decode cr_37 62 = .ok (.ifCond .ne (8), 3) := by decide +kernel
theorem dr_37_65 : decode cr_37 65 = .ok (.aload_n 0, 1) := by decide +kernel
theorem dr_37_66 : decode cr_37 66 = .ok (.invokevirtual 139, 3) := by decide +kernel
theorem dr_37_69 : decode cr_37 69 = .ok (.return_, 1) := by decide +kernel
theorem dr_37_70 : decode cr_37 70 = .ok (.aload_n 0, 1) := by decide +kernel
theorem dr_37_71 : decode cr_37 71 = .ok (.aload_n 0, 1) := by decide +kernel
theorem dr_37_72 : decode cr_37 72 = .ok (.getfield 133, 3) := by decide +kernel
theorem dr_37_75 : decode cr_37 75 = .ok (.putfield 180, 3) := by decide +kernel
theorem dr_37_78 : decode cr_37 78 = .ok (.aload_n 0, 1) := by decide +kernel
theorem dr_37_79 : decode cr_37 79 = .ok (.dup, 1) := by decide +kernel
theorem dr_37_80 : decode cr_37 80 = .ok (.getfield 133, 3) := by decide +kernel
theorem dr_37_83 : decode cr_37 83 = .ok (.iconst 1, 1) := by decide +kernel
theorem dr_37_84 : decode cr_37 84 = .ok (.iadd, 1) := by decide +kernel
theorem dr_37_85 : decode cr_37 85 = .ok (.putfield 133, 3) := by decide +kernel
theorem dr_37_88 : decode cr_37 88 = .ok (.goto (41), 3) := by decide +kernel
theorem dr_37_91 : decode cr_37 91 = .ok (.aload_n 0, 1) := by decide +kernel
theorem dr_37_92 : decode cr_37 92 = .ok (.iload_n 1, 1) := by decide +kernel
theorem dr_37_93 : decode cr_37 93 = .ok (.invokevirtual 226, 3) := by decide +kernel
theorem dr_37_96 : decode cr_37 96 = .ok (.ifCond .eq (25), 3) := by decide +kernel
theorem dr_37_99 : decode cr_37 99 = .ok (.aload_n 0, 1) := by decide +kernel
theorem dr_37_100 : decode cr_37 100 = .ok (.bipush 18, 2) := by decide +kernel
theorem dr_37_102 : decode cr_37 102 = .ok (.bipush 41, 2) := by decide +kernel
theorem dr_37_104 : decode cr_37 104 = .ok (.invokevirtual 199, 3) := by decide +kernel
theorem dr_37_107 : decode cr_37 107 = .ok (.aload_n 0, 1) := by decide +kernel
theorem dr_37_108 : decode cr_37 108 = .ok (.bipush 6, 2) := by decide +kernel
theorem dr_37_110 : decode cr_37 110 = .ok (.iload_n 1, 1) := by decide +kernel
theorem dr_37_111 : decode cr_37 111 = .ok (.invokevirtual 199, 3) := by decide +kernel
theorem dr_37_114 : decode cr_37 114 = .ok (.aload_n 0, 1) := by decide +kernel
theorem dr_37_115 : decode cr_37 115 = .ok (.invokevirtual 229, 3) := by decide +kernel
theorem dr_37_118 : decode cr_37 118 = .ok (.goto (11), 3) := by decide +kernel
theorem dr_37_121 : decode cr_37 121 = .ok (.iload_n 1, 1) := by decide +kernel
theorem dr_37_122 : decode cr_37 122 = .ok (.ifCond .ne (7), 3) := by decide +kernel
theorem dr_37_125 : decode cr_37 125 = .ok (.aload_n 0, 1) := by decide +kernel
theorem dr_37_126 : decode cr_37 126 = .ok (.invokevirtual 139, 3) := by decide +kernel
theorem dr_37_129 : decode cr_37 129 = .ok (.return_, 1) := by decide +kernel
theorem dr_38_0 : decode cr_38 0 = .ok (.aload_n 0, 1) := by decide +kernel
theorem dr_38_1 : decode cr_38 1 = .ok (.bipush 91, 2) := by decide +kernel
theorem dr_38_3 : decode cr_38 3 = .ok (.invokevirtual 142, 3) := by decide +kernel
theorem dr_38_6 : decode cr_38 6 = .ok (.ifCond .eq (102), 3) := by decide +kernel
theorem dr_38_9 : decode cr_38 9 = .ok (.aload_n 0, 1) := by decide +kernel
theorem dr_38_10 : decode cr_38 10 = .ok (.invokevirtual 229, 3) := by decide +kernel
theorem dr_38_13 : decode cr_38 13 = .ok (.aload_n 0, 1) := by decide +kernel
theorem dr_38_14 : decode cr_38 14 = .ok (.bipush 91, 2) := by decide +kernel
theorem dr_38_16 : decode cr_38 16 = .ok (.invokevirtual 167, 3) := by decide +kernel
theorem dr_38_19 : decode cr_38 19 = .ok (.aload_n 0, 1) := by decide +kernel
theorem dr_38_20 : decode cr_38 20 = .ok (.getfield 129, 3) := by decide +kernel
theorem dr_38_23 : decode cr_38 23 = .ok (.ifCond .ne (62), 3) := by decide +kernel
theorem dr_38_26 : decode cr_38 26 = .ok (.aload_n 0, 1) := by decide +kernel
theorem dr_38_27 : decode cr_38 27 = .ok (.iconst 2, 1) := by decide +kernel
theorem dr_38_28 : decode cr_38 28 = .ok (.invokevirtual 142, 3) := by decide +kernel
theorem dr_38_31 : decode cr_38 31 = .ok (.ifCond .eq (54), 3) := by decide +kernel
theorem dr_38_34 : decode cr_38 34 = .ok (.iconst 0, 1) := by decide +kernel
theorem dr_38_35 : decode cr_38 35 = .ok (.istore_n 1, 1) := by decide +kernel
theorem dr_38_36 : decode cr_38 36 = .ok (.iload_n 1, 1) := by decide +kernel
theorem dr_38_37 : decode cr_38 37 = .ok (.aload_n 0, 1) := by decide +kernel
theorem dr_38_38 : decode cr_38 38 = .ok (.getfield 19, 3) := by decide +kernel
theorem dr_38_41 : decode cr_38 41 = .ok (.aload_n 0, 1) := by decide +kernel
theorem dr_38_42 : decode cr_38 42 = .ok (.getfield 133, 3) := by decide +kernel
theorem dr_38_45 : decode cr_38 45 = .ok (.iaload, 1) := by decide +kernel
theorem dr_38_46 : decode cr_38 46 = .ok (.if_icmp .ge (29), 3) := by decide +kernel
theorem dr_38_49 : decode cr_38 49 = .ok (.aload_n 0, 1) := by decide +kernel
theorem dr_38_50 : decode cr_38 50 = .ok (.aload_n 0, 1) := by decide +kernel
theorem dr_38_51 : decode cr_38 51 = .ok (.getfield 7, 3) := by decide +kernel
theorem dr_38_54 : decode cr_38 54 = .ok (.aload_n 0, 1) := by decide +kernel
theorem dr_38_55 : decode cr_38 55 = .ok (.getfield 16, 3) := by decide +kernel
theorem dr_38_58 : decode cr_38 58 = .ok (.aload_n 0, 1) := by decide +kernel
theorem dr_38_59 : decode cr_38 59 = .ok (.getfield 133, 3) := by decide +kernel
theorem dr_38_62 : decode cr_38 62 = .ok (.iaload, 1) := by decide +kernel
theorem dr_38_63 : decode cr_38 63 = .ok (.iload_n 1, 1) := by decide +kernel
theorem dr_38_64 : decode cr_38 64 = .ok (.iadd, 1) := by decide +kernel
theorem dr_38_65 : decode cr_38 65 = .ok (.iaload, 1) := by decide +kernel
theorem dr_38_66 : decode cr_38 66 = .ok (.invokevirtual 167, 3) := by decide +kernel
theorem dr_38_69 : decode cr_38 69 = .ok (.iinc 1 1, 3) := by decide +kernel
theorem dr_38_72 : decode cr_38 72 = .ok (.goto (-36), 3) := by decide +kernel
theorem dr_38_75 : decode cr_38 75 = .ok (.aload_n 0, 1) := by decide +kernel
theorem dr_38_76 : decode cr_38 76 = .ok (.dup, 1) := by decide +kernel
theorem dr_38_77 : decode cr_38 77 = .ok (.getfield 133, 3) := by decide +kernel
theorem dr_38_80 : decode cr_38 80 = .ok (.iconst 1, 1) := by decide +kernel
theorem dr_38_81 : decode cr_38 81 = .ok (.iadd, 1) := by decide +kernel
theorem dr_38_82 : decode cr_38 82 = .ok (.putfield 133, 3) := by decide +kernel
theorem dr_38_85 : decode cr_38 85 = .ok (.aload_n 0, 1) := by decide +kernel
theorem dr_38_86 : decode cr_38 86 = .ok (.bipush 93, 2) := by decide +kernel
theorem dr_38_88 : decode cr_38 88 = .ok (.invokevirtual 167, 3) := by decide +kernel
theorem dr_38_91 : decode cr_38 91 = .ok (.aload_n 0, 1) := by decide +kernel
theorem dr_38_92 : decode cr_38 92 = .ok (.bipush 7, 2) := by decide +kernel
theorem dr_38_94 : decode cr_38 94 = .ok (.iconst 0, 1) := by decide +kernel
theorem dr_38_95 : decode cr_38 95 = .ok (.invokevirtual 199, 3) := by decide +kernel
theorem dr_38_98 : decode cr_38 98 = .ok (.aload_n 0, 1) := by decide +kernel
theorem dr_38_99 : decode cr_38 99 = .ok (.bipush 93, 2) := by decide +kernel
theorem dr_38_101 : decode cr_38 101 = .ok (.iconst 1, 1) := by decide +kernel
theorem dr_38_102 : decode cr_38 102 = .ok (.invokevirtual 216, 3) := by decide +kernel
theorem dr_38_105 : decode cr_38 105 = .ok (.goto (27), 3) := by decide +kernel
theorem dr_38_108 : decode cr_38 108 = .ok (.aload_n 0, 1) := by decide +kernel
theorem dr_38_109 : decode cr_38 109 = .ok (.bipush 40, 2) := by decide +kernel
theorem dr_38_111 : decode cr_38 111 = .ok (.invokevirtual 142, 3) := by decide +kernel
theorem dr_38_114 : decode cr_38 114 = .ok (.ifCond .eq (18), 3) := by decide +kernel
theorem dr_38_117 : decode cr_38 117 = .ok (.aload_n 0, 1) := by decide +kernel
theorem dr_38_118 : decode cr_38 118 = .ok (.invokevirtual 229, 3) := by decide +kernel
theorem dr_38_121 : decode cr_38 121 = .ok (.aload_n 0, 1) := by decide +kernel
theorem dr_38_122 : decode cr_38 122 = .ok (.getfield 129, 3) := by decide +kernel
theorem dr_38_125 : decode cr_38 125 = .ok (.ifCond .ne (7), 3) := by decide +kernel
theorem dr_38_128 : decode cr_38 128 = .ok (.aload_n 0, 1) := by decide +kernel
theorem dr_38_129 : decode cr_38 129 = .ok (.invokevirtual 232, 3) := by decide +kernel
theorem dr_38_132 : decode cr_38 132 = .ok (.return_, 1) := by decide +kernel
theorem dr_39_0 : decode cr_39 0 = .ok (.aload_n 0, 1) := by decide +kernel
theorem dr_39_1 : decode cr_39 1 = .ok (.invokevirtual 235, 3) := by decide +kernel
theorem dr_39_4 : decode cr_39 4 = .ok (.istore_n 1, 1) := by decide +kernel
theorem dr_39_5 : decode cr_39 5 = .ok (.aload_n 0, 1) := by decide +kernel
theorem dr_39_6 : decode cr_39 6 = .ok (.aload_n 0, 1) := by decide +kernel
theorem dr_39_7 : decode cr_39 7 = .ok (.getfield 164, 3) := by decide +kernel
theorem dr_39_10 : decode cr_39 10 = .ok (.ifCond .ne (7), 3) := by decide +kernel
theorem dr_39_13 : decode cr_39 13 = .ok (.iload_n 1, 1) := by decide +kernel
theorem dr_39_14 : decode cr_39 14 = .ok (.goto (7), 3) := by decide +kernel
theorem dr_39_17 : decode cr_39 17 = .ok (.aload_n 0, 1) := by decide +kernel
theorem dr_39_18 : decode cr_39 18 = .ok (.getfield 196, 3) := by decide +kernel
theorem dr_39_21 : decode cr_39 21 = .ok (.putfield 196, 3) := by decide +kernel
theorem dr_39_24 : decode cr_39 24 = .ok (.aload_n 0, 1) := by decide +kernel
theorem dr_39_25 : decode cr_39 25 = .ok (.iload_n 1, 1) := by decide +kernel
theorem dr_39_26 : decode cr_39 26 = .ok (.invokevirtual 238, 3) := by decide +kernel
theorem dr_39_29 : decode cr_39 29 = .ok (.aload_n 0, 1) := by decide +kernel
theorem dr_39_30 : decode cr_39 30 = .ok (.bipush 40, 2) := by decide +kernel
theorem dr_39_32 : decode cr_39 32 = .ok (.invokevirtual 167, 3) := by decide +kernel
theorem dr_39_35 : decode cr_39 35 = .ok (.aload_n 0, 1) := by decide +kernel
theorem dr_39_36 : decode cr_39 36 = .ok (.bipush 7, 2) := by decide +kernel
theorem dr_39_38 : decode cr_39 38 = .ok (.iconst 0, 1) := by decide +kernel
theorem dr_39_39 : decode cr_39 39 = .ok (.invokevirtual 199, 3) := by decide +kernel
theorem dr_39_42 : decode cr_39 42 = .ok (.aload_n 0, 1) := by decide +kernel
theorem dr_39_43 : decode cr_39 43 = .ok (.bipush 14, 2) := by decide +kernel
theorem dr_39_45 : decode cr_39 45 = .ok (.iconst 0, 1) := by decide +kernel
theorem dr_39_46 : decode cr_39 46 = .ok (.invokevirtual 199, 3) := by decide +kernel
theorem dr_39_49 : decode cr_39 49 = .ok (.aload_n 0, 1) := by decide +kernel
theorem dr_39_50 : decode cr_39 50 = .ok (.bipush 7, 2) := by decide +kernel
theorem dr_39_52 : decode cr_39 52 = .ok (.invokevirtual 142, 3) := by decide +kernel
theorem dr_39_55 : decode cr_39 55 = .ok (.ifCond .eq (25), 3) := by decide +kernel
theorem dr_39_58 : decode cr_39 58 = .ok (.aload_n 0, 1) := by decide +kernel
theorem dr_39_59 : decode cr_39 59 = .ok (.invokevirtual 220, 3) := by decide +kernel
theorem dr_39_62 : decode cr_39 62 = .ok (.bipush 41, 2) := by decide +kernel
theorem dr_39_64 : decode cr_39 64 = .ok (.if_icmp .ne (16), 3) := by decide +kernel
theorem dr_39_67 : decode cr_39 67 = .ok (.aload_n 0, 1) := by decide +kernel
theorem dr_39_68 : decode cr_39 68 = .ok (.dup, 1) := by decide +kernel
theorem dr_39_69 : decode cr_39 69 = .ok (.getfield 133, 3) := by decide +kernel
theorem dr_39_72 : decode cr_39 72 = .ok (.iconst 1, 1) := by decide +kernel
theorem dr_39_73 : decode cr_39 73 = .ok (.iadd, 1) := by decide +kernel
theorem dr_39_74 : decode cr_39 74 = .ok (.putfield 133, 3) := by decide +kernel
theorem dr_39_77 : decode cr_39 77 = .ok (.goto (19), 3) := by decide +kernel
theorem dr_39_80 : decode cr_39 80 = .ok (.aload_n 0, 1) := by decide +kernel
theorem dr_39_81 : decode cr_39 81 = .ok (.bipush 41, 2) := by decide +kernel
theorem dr_39_83 : decode cr_39 83 = .ok (.invokevirtual 142, 3) := by decide +kernel
theorem dr_39_86 : decode cr_39 86 = .ok (.ifCond .ne (10), 3) := by decide +kernel
theorem dr_39_89 : decode cr_39 89 = .ok (.aload_n 0, 1) := by decide +kernel
theorem dr_39_90 : decode cr_39 90 = .ok (.bipush 9, 2) := by decide +kernel
theorem dr_39_92 : decode cr_39 92 = .ok (.iconst 0, 1) := by decide +kernel
theorem dr_39_93 : decode cr_39 93 = .ok (.invokevirtual 199, 3) := by decide +kernel
theorem dr_39_96 : decode cr_39 96 = .ok (.return_, 1) := by decide +kernel
theorem dr_40_0 : decode cr_40 0 = .ok (.aload_n 0, 1) := by decide +kernel
theorem dr_40_1 : decode cr_40 1 = .ok (.invokevirtual 189, 3) := by decide +kernel
theorem dr_40_4 : decode cr_40 4 = .ok (.istore_n 1, 1) := by decide +kernel
theorem dr_40_5 : decode cr_40 5 = .ok (.aload_n 0, 1) := by decide +kernel
theorem dr_40_6 : decode cr_40 6 = .ok (.getfield 129, 3) := by decide +kernel
theorem dr_40_9 : decode cr_40 9 = .ok (.ifCond .eq (4), 3) := by decide +kernel
theorem dr_40_12 : decode cr_40 12 = .ok (.return_, 1) := by decide +kernel
theorem dr_40_13 : decode cr_40 13 = .ok (.aload_n 0, 1) := by decide +kernel
theorem dr_40_14 : decode cr_40 14 = .ok (.bipush 13, 2) := by decide +kernel
theorem dr_40_16 : decode cr_40 16 = .ok (.iconst 0, 1) := by decide +kernel
theorem dr_40_17 : decode cr_40 17 = .ok (.invokevirtual 199, 3) := by decide +kernel
theorem dr_40_20 : decode cr_40 20 = .ok (.aload_n 0, 1) := by decide +kernel
theorem dr_40_21 : decode cr_40 21 = .ok (.bipush 12, 2) := by decide +kernel
theorem dr_40_23 : decode cr_40 23 = .ok (.aload_n 0, 1) := by decide +kernel
theorem dr_40_24 : decode cr_40 24 = .ok (.getfield 183, 3) := by decide +kernel
theorem dr_40_27 : decode cr_40 27 = .ok (.invokevirtual 199, 3) := by decide +kernel
theorem dr_40_30 : decode cr_40 30 = .ok (.aload_n 0, 1) := by decide +kernel
theorem dr_40_31 : decode cr_40 31 = .ok (.bipush 11, 2) := by decide +kernel
theorem dr_40_33 : decode cr_40 33 = .ok (.aload_n 0, 1) := by decide +kernel
theorem dr_40_34 : decode cr_40 34 = .ok (.getfield 180, 3) := by decide +kernel
theorem dr_40_37 : decode cr_40 37 = .ok (.invokevirtual 199, 3) := by decide +kernel
theorem dr_40_40 : decode cr_40 40 = .ok (.aload_n 0, 1) := by decide +kernel
theorem dr_40_41 : decode cr_40 41 = .ok (.bipush 10, 2) := by decide +kernel
theorem dr_40_43 : decode cr_40 43 = .ok (.iload_n 1, 1) := by decide +kernel
theorem dr_40_44 : decode cr_40 44 = .ok (.invokevirtual 199, 3) := by decide +kernel
theorem dr_40_47 : decode cr_40 47 = .ok (.aload_n 0, 1) := by decide +kernel
theorem dr_40_48 : decode cr_40 48 = .ok (.bipush 6, 2) := by decide +kernel
theorem dr_40_50 : decode cr_40 50 = .ok (.iconst 1, 1) := by decide +kernel
theorem dr_40_51 : decode cr_40 51 = .ok (.invokevirtual 199, 3) := by decide +kernel
theorem dr_40_54 : decode cr_40 54 = .ok (.aload_n 0, 1) := by decide +kernel
theorem dr_40_55 : decode cr_40 55 = .ok (.aload_n 0, 1) := by decide +kernel
theorem dr_40_56 : decode cr_40 56 = .ok (.getfield 164, 3) := by decide +kernel
theorem dr_40_59 : decode cr_40 59 = .ok (.putfield 183, 3) := by decide +kernel
theorem dr_40_62 : decode cr_40 62 = .ok (.aload_n 0, 1) := by decide +kernel
theorem dr_40_63 : decode cr_40 63 = .ok (.iconst (-1), 1) := by decide +kernel
theorem dr_40_64 : decode cr_40 64 = .ok (.putfield 180, 3) := by decide +kernel
theorem dr_40_67 : decode cr_40 67 = .ok (.return_, 1) := by decide +kernel
theorem dr_41_0 : decode cr_41 0 = .ok (.aload_n 0, 1) := by decide +kernel
theorem dr_41_1 : decode cr_41 1 = .ok (.iload_n 1, 1) := by decide +kernel
theorem dr_41_2 : decode cr_41 2 = .ok (.invokevirtual 203, 3) := by decide +kernel
theorem dr_41_5 : decode cr_41 5 = .ok (.aload_n 0, 1) := by decide +kernel
theorem dr_41_6 : decode cr_41 6 = .ok (.getfield 180, 3) := by decide +kernel
theorem dr_41_9 : decode cr_41 9 = .ok (.ifCond .lt (8), 3) := by decide +kernel
theorem dr_41_12 : decode cr_41 12 = .ok (.aload_n 0, 1) := by decide +kernel
theorem dr_41_13 : decode cr_41 13 = .ok (.iconst 0, 1) := by decide +kernel
theorem dr_41_14 : decode cr_41 14 = .ok (.invokevirtual 206, 3) := by decide +kernel
theorem dr_41_17 : decode cr_41 17 = .ok (.return_, 1) := by decide +kernel
theorem dr_42_0 : decode cr_42 0 = .ok (.aload_n 0, 1) := by decide +kernel
theorem dr_42_1 : decode cr_42 1 = .ok (.bipush 44, 2) := by decide +kernel
theorem dr_42_3 : decode cr_42 3 = .ok (.invokevirtual 142, 3) := by decide +kernel
theorem dr_42_6 : decode cr_42 6 = .ok (.ifCond .eq (26), 3) := by decide +kernel
theorem dr_42_9 : decode cr_42 9 = .ok (.aload_n 0, 1) := by decide +kernel
theorem dr_42_10 : decode cr_42 10 = .ok (.dup, 1) := by decide +kernel
theorem dr_42_11 : decode cr_42 11 = .ok (.getfield 133, 3) := by decide +kernel
theorem dr_42_14 : decode cr_42 14 = .ok (.iconst 1, 1) := by decide +kernel
theorem dr_42_15 : decode cr_42 15 = .ok (.iadd, 1) := by decide +kernel
theorem dr_42_16 : decode cr_42 16 = .ok (.putfield 133, 3) := by decide +kernel
theorem dr_42_19 : decode cr_42 19 = .ok (.aload_n 0, 1) := by decide +kernel
theorem dr_42_20 : decode cr_42 20 = .ok (.bipush 44, 2) := by decide +kernel
theorem dr_42_22 : decode cr_42 22 = .ok (.invokevirtual 167, 3) := by decide +kernel
theorem dr_42_25 : decode cr_42 25 = .ok (.aload_n 0, 1) := by decide +kernel
theorem dr_42_26 : decode cr_42 26 = .ok (.bipush 9, 2) := by decide +kernel
theorem dr_42_28 : decode cr_42 28 = .ok (.iconst 0, 1) := by decide +kernel
theorem dr_42_29 : decode cr_42 29 = .ok (.invokevirtual 199, 3) := by decide +kernel
theorem dr_42_32 : decode cr_42 32 = .ok (.return_, 1) := by decide +kernel
theorem dr_43_0 : decode cr_43 0 = .ok (.aload_n 0, 1) := by decide +kernel
theorem dr_43_1 : decode cr_43 1 = .ok (.bipush 41, 2) := by decide +kernel
theorem dr_43_3 : decode cr_43 3 = .ok (.iconst 1, 1) := by decide +kernel
theorem dr_43_4 : decode cr_43 4 = .ok (.invokevirtual 216, 3) := by decide +kernel
theorem dr_43_7 : decode cr_43 7 = .ok (.aload_n 0, 1) := by decide +kernel
theorem dr_43_8 : decode cr_43 8 = .ok (.bipush 41, 2) := by decide +kernel
theorem dr_43_10 : decode cr_43 10 = .ok (.invokevirtual 167, 3) := by decide +kernel
theorem dr_43_13 : decode cr_43 13 = .ok (.aload_n 0, 1) := by decide +kernel
theorem dr_43_14 : decode cr_43 14 = .ok (.dup, 1) := by decide +kernel
theorem dr_43_15 : decode cr_43 15 = .ok (.getfield 145, 3) := by decide +kernel
theorem dr_43_18 : decode cr_43 18 = .ok (.iconst 1, 1) := by decide +kernel
theorem dr_43_19 : decode cr_43 19 = .ok (.isub, 1) := by decide +kernel
theorem dr_43_20 : decode cr_43 20 = .ok (.putfield 145, 3) := by decide +kernel
theorem dr_43_23 : decode cr_43 23 = .ok (.return_, 1) := by decide +kernel
theorem dr_44_0 : decode cr_44 0 = .ok (.aload_n 0, 1) := by decide +kernel
theorem dr_44_1 : decode cr_44 1 = .ok (.invokevirtual 229, 3) := by decide +kernel
theorem dr_44_4 : decode cr_44 4 = .ok (.aload_n 0, 1) := by decide +kernel
theorem dr_44_5 : decode cr_44 5 = .ok (.getfield 129, 3) := by decide +kernel
theorem dr_44_8 : decode cr_44 8 = .ok (.ifCond .eq (4), 3) := by decide +kernel
theorem dr_44_11 : decode cr_44 11 = .ok (.return_, 1) := by decide +kernel
theorem dr_44_12 : decode cr_44 12 = .ok (.aload_n 0, 1) := by decide +kernel
theorem dr_44_13 : decode cr_44 13 = .ok (.iload_n 1, 1) := by decide +kernel
theorem dr_44_14 : decode cr_44 14 = .ok (.ifCond .ge (10), 3) := by decide +kernel
theorem dr_44_17 : decode cr_44 17 = .ok (.aload_n 0, 1) := by decide +kernel
theorem dr_44_18 : decode cr_44 18 = .ok (.invokevirtual 235, 3) := by decide +kernel
theorem dr_44_21 : decode cr_44 21 = .ok (.goto (4), 3) := by decide +kernel
theorem dr_44_24 : decode cr_44 24 = .ok (.iload_n 1, 1) := by decide +kernel
theorem dr_44_25 : decode cr_44 25 = .ok (.invokevirtual 238, 3) := by decide +kernel
theorem dr_44_28 : decode cr_44 28 = .ok (.aload_n 0, 1) := by decide +kernel
theorem dr_44_29 : decode cr_44 29 = .ok (.bipush 123, 2) := by decide +kernel
theorem dr_44_31 : decode cr_44 31 = .ok (.invokevirtual 177, 3) := by decide +kernel
theorem dr_44_34 : decode cr_44 34 = .ok (.aload_n 0, 1) := by decide +kernel
theorem dr_44_35 : decode cr_44 35 = .ok (.bipush 16, 2) := by decide +kernel
theorem dr_44_37 : decode cr_44 37 = .ok (.iconst 0, 1) := by decide +kernel
theorem dr_44_38 : decode cr_44 38 = .ok (.invokevirtual 199, 3) := by decide +kernel
theorem dr_44_41 : decode cr_44 41 = .ok (.return_, 1) := by decide +kernel
theorem dr_45_0 : decode cr_45 0 = .ok (.aload_n 0, 1) := by decide +kernel
theorem dr_45_1 : decode cr_45 1 = .ok (.bipush 125, 2) := by decide +kernel
theorem dr_45_3 : decode cr_45 3 = .ok (.invokevirtual 142, 3) := by decide +kernel
theorem dr_45_6 : decode cr_45 6 = .ok (.ifCond .eq (27), 3) := by decide +kernel
theorem dr_45_9 : decode cr_45 9 = .ok (.aload_n 0, 1) := by decide +kernel
theorem dr_45_10 : decode cr_45 10 = .ok (.bipush 125, 2) := by decide +kernel
theorem dr_45_12 : decode cr_45 12 = .ok (.iconst 1, 1) := by decide +kernel
theorem dr_45_13 : decode cr_45 13 = .ok (.invokevirtual 216, 3) := by decide +kernel
theorem dr_45_16 : decode cr_45 16 = .ok (.aload_n 0, 1) := by decide +kernel
theorem dr_45_17 : decode cr_45 17 = .ok (.bipush 125, 2) := by decide +kernel
theorem dr_45_19 : decode cr_45 19 = .ok (.invokevirtual 177, 3) := by decide +kernel
theorem dr_45_22 : decode cr_45 22 = .ok (.aload_n 0, 1) := by decide +kernel
theorem dr_45_23 : decode cr_45 23 = .ok (.dup, 1) := by decide +kernel
theorem dr_45_24 : decode cr_45 24 = .ok (.getfield 145, 3) := by decide +kernel
theorem dr_45_27 : decode cr_45 27 = .ok (.iconst 1, 1) := by decide +kernel
theorem dr_45_28 : decode cr_45 28 = .ok (.isub, 1) := by decide +kernel
theorem dr_45_29 : decode cr_45 29 = .ok (.putfield 145, 3) := by decide +kernel
theorem dr_45_32 : decode cr_45 32 = .ok (.return_, 1) := by decide +kernel
theorem dr_45_33 : decode cr_45 33 = .ok (.aload_n 0, 1) := by decide +kernel
theorem dr_45_34 : decode cr_45 34 = .ok (.bipush 16, 2) := by decide +kernel
theorem dr_45_36 : decode cr_45 36 = .ok (.iconst 0, 1) := by decide +kernel
theorem dr_45_37 : decode cr_45 37 = .ok (.invokevirtual 199, 3) := by decide +kernel
theorem dr_45_40 : decode cr_45 40 = .ok (.aload_n 0, 1) := by decide +kernel
theorem dr_45_41 : decode cr_45 41 = .ok (.aload_n 0, 1) := by decide +kernel
theorem dr_45_42 : decode cr_45 42 = .ok (.iconst 4, 1) := by decide +kernel
theorem dr_45_43 : decode cr_45 43 = .ok (.invokevirtual 142, 3) := by decide +kernel
theorem dr_45_46 : decode cr_45 46 = .ok (.ifCond .ne (14), 3) := by decide +kernel
theorem dr_45_49 : decode cr_45 49 = .ok (.aload_n 0, 1) := by decide +kernel
theorem dr_45_50 : decode cr_45 50 = .ok (.aload_n 0, 1) := by decide +kernel
theorem dr_45_51 : decode cr_45 51 = .ok (.getfield 133, 3) := by decide +kernel
theorem dr_45_54 : decode cr_45 54 = .ok (.invokevirtual 158, 3) := by decide +kernel
theorem dr_45_57 : decode cr_45 57 = .ok (.ifCond .eq (7), 3) := by decide +kernel
theorem dr_45_60 : decode cr_45 60 = .ok (.iconst 2, 1) := by decide +kernel
theorem dr_45_61 : decode cr_45 61 = .ok (.goto (5), 3) := by decide +kernel
theorem dr_45_64 : decode cr_45 64 = .ok (.bipush 17, 2) := by decide +kernel
theorem dr_45_66 : decode cr_45 66 = .ok (.iconst 0, 1) := by decide +kernel
theorem dr_45_67 : decode cr_45 67 = .ok (.invokevirtual 199, 3) := by decide +kernel
theorem dr_45_70 : decode cr_45 70 = .ok (.return_, 1) := by decide +kernel
theorem dr_46_0 : decode cr_46 0 = .ok (.aload_n 0, 1) := by decide +kernel
theorem dr_46_1 : decode cr_46 1 = .ok (.invokevirtual 229, 3) := by decide +kernel
theorem dr_46_4 : decode cr_46 4 = .ok (.aload_n 0, 1) := by decide +kernel
theorem dr_46_5 : decode cr_46 5 = .ok (.iload_n 2, 1) := by decide +kernel
theorem dr_46_6 : decode cr_46 6 = .ok (.iconst 0, 1) := by decide +kernel
theorem dr_46_7 : decode cr_46 7 = .ok (.invokevirtual 199, 3) := by decide +kernel
theorem dr_46_10 : decode cr_46 10 = .ok (.aload_n 0, 1) := by decide +kernel
theorem dr_46_11 : decode cr_46 11 = .ok (.bipush 17, 2) := by decide +kernel
theorem dr_46_13 : decode cr_46 13 = .ok (.iconst 0, 1) := by decide +kernel
theorem dr_46_14 : decode cr_46 14 = .ok (.invokevirtual 199, 3) := by decide +kernel
theorem dr_46_17 : decode cr_46 17 = .ok (.aload_n 0, 1) := by decide +kernel
theorem dr_46_18 : decode cr_46 18 = .ok (.bipush 19, 2) := by decide +kernel
theorem dr_46_20 : decode cr_46 20 = .ok (.iload_n 1, 1) := by decide +kernel
theorem dr_46_21 : decode cr_46 21 = .ok (.invokevirtual 199, 3) := by decide +kernel
theorem dr_46_24 : decode cr_46 24 = .ok (.aload_n 0, 1) := by decide +kernel
theorem dr_46_25 : decode cr_46 25 = .ok (.bipush 18, 2) := by decide +kernel
theorem dr_46_27 : decode cr_46 27 = .ok (.bipush 41, 2) := by decide +kernel
theorem dr_46_29 : decode cr_46 29 = .ok (.invokevirtual 199, 3) := by decide +kernel
theorem dr_46_32 : decode cr_46 32 = .ok (.aload_n 0, 1) := by decide +kernel
theorem dr_46_33 : decode cr_46 33 = .ok (.bipush 22, 2) := by decide +kernel
theorem dr_46_35 : decode cr_46 35 = .ok (.iconst 0, 1) := by decide +kernel
theorem dr_46_36 : decode cr_46 36 = .ok (.invokevirtual 199, 3) := by decide +kernel
theorem dr_46_39 : decode cr_46 39 = .ok (.aload_n 0, 1) := by decide +kernel
theorem dr_46_40 : decode cr_46 40 = .ok (.getfield 129, 3) := by decide +kernel
theorem dr_46_43 : decode cr_46 43 = .ok (.ifCond .ne (16), 3) := by decide +kernel
theorem dr_46_46 : decode cr_46 46 = .ok (.aload_n 0, 1) := by decide +kernel
theorem dr_46_47 : decode cr_46 47 = .ok (.bipush 40, 2) := by decide +kernel
theorem dr_46_49 : decode cr_46 49 = .ok (.invokevirtual 142, 3) := by decide +kernel
theorem dr_46_52 : decode cr_46 52 = .ok (.ifCond .ne (7), 3) := by decide +kernel
theorem dr_46_55 : decode cr_46 55 = .ok (.aload_n 0, 1) := by decide +kernel
theorem dr_46_56 : decode cr_46 56 = .ok (.invokevirtual 139, 3) := by decide +kernel
theorem dr_46_59 : decode cr_46 59 = .ok (.aload_n 0, 1) := by decide +kernel
theorem dr_46_60 : decode cr_46 60 = .ok (.getfield 129, 3) := by decide +kernel
theorem dr_46_63 : decode cr_46 63 = .ok (.ifCond .ne (7), 3) := by decide +kernel
theorem dr_46_66 : decode cr_46 66 = .ok (.aload_n 0, 1) := by decide +kernel
theorem dr_46_67 : decode cr_46 67 = .ok (.invokevirtual 229, 3) := by decide +kernel
theorem dr_46_70 : decode cr_46 70 = .ok (.return_, 1) := by decide +kernel
theorem dr_47_0 : decode cr_47 0 = .ok (.aload_n 0, 1) := by decide +kernel
theorem dr_47_1 : decode cr_47 1 = .ok (.bipush 123, 2) := by decide +kernel
theorem dr_47_3 : decode cr_47 3 = .ok (.invokevirtual 142, 3) := by decide +kernel
theorem dr_47_6 : decode cr_47 6 = .ok (.ifCond .eq (13), 3) := by decide +kernel
theorem dr_47_9 : decode cr_47 9 = .ok (.aload_n 0, 1) := by decide +kernel
theorem dr_47_10 : decode cr_47 10 = .ok (.bipush 15, 2) := by decide +kernel
theorem dr_47_12 : decode cr_47 12 = .ok (.iconst (-1), 1) := by decide +kernel
theorem dr_47_13 : decode cr_47 13 = .ok (.invokevirtual 199, 3) := by decide +kernel
theorem dr_47_16 : decode cr_47 16 = .ok (.goto (148), 3) := by decide +kernel
theorem dr_47_19 : decode cr_47 19 = .ok (.aload_n 0, 1) := by decide +kernel
theorem dr_47_20 : decode cr_47 20 = .ok (.bipush 59, 2) := by decide +kernel
theorem dr_47_22 : decode cr_47 22 = .ok (.invokevirtual 142, 3) := by decide +kernel
theorem dr_47_25 : decode cr_47 25 = .ok (.ifCond .eq (22), 3) := by decide +kernel
theorem dr_47_28 : decode cr_47 28 = .ok (.aload_n 0, 1) := by decide +kernel
theorem dr_47_29 : decode cr_47 29 = .ok (.dup, 1) := by decide +kernel
theorem dr_47_30 : decode cr_47 30 = .ok (.getfield 133, 3) := by decide +kernel
theorem dr_47_33 : decode cr_47 33 = .ok (.iconst 1, 1) := by decide +kernel
theorem dr_47_34 : decode cr_47 34 = .ok (.iadd, 1) := by decide +kernel
theorem dr_47_35 : decode cr_47 35 = .ok (.putfield 133, 3) := by decide +kernel
theorem dr_47_38 : decode cr_47 38 = .ok (.aload_n 0, 1) := by decide +kernel
theorem dr_47_39 : decode cr_47 39 = .ok (.bipush 59, 2) := by decide +kernel
theorem dr_47_41 : decode cr_47 41 = .ok (.invokevirtual 177, 3) := by decide +kernel
theorem dr_47_44 : decode cr_47 44 = .ok (.goto (120), 3) := by decide +kernel
theorem dr_47_47 : decode cr_47 47 = .ok (.aload_n 0, 1) := by decide +kernel
theorem dr_47_48 : decode cr_47 48 = .ok (.bipush 8, 2) := by decide +kernel
theorem dr_47_50 : decode cr_47 50 = .ok (.invokevirtual 142, 3) := by decide +kernel
theorem dr_47_53 : decode cr_47 53 = .ok (.ifCond .eq (14), 3) := by decide +kernel
theorem dr_47_56 : decode cr_47 56 = .ok (.aload_n 0, 1) := by decide +kernel
theorem dr_47_57 : decode cr_47 57 = .ok (.bipush 63, 2) := by decide +kernel
theorem dr_47_59 : decode cr_47 59 = .ok (.bipush 20, 2) := by decide +kernel
theorem dr_47_61 : decode cr_47 61 = .ok (.invokevirtual 241, 3) := by decide +kernel
theorem dr_47_64 : decode cr_47 64 = .ok (.goto (100), 3) := by decide +kernel
theorem dr_47_67 : decode cr_47 67 = .ok (.aload_n 0, 1) := by decide +kernel
theorem dr_47_68 : decode cr_47 68 = .ok (.bipush 10, 2) := by decide +kernel
theorem dr_47_70 : decode cr_47 70 = .ok (.invokevirtual 142, 3) := by decide +kernel
theorem dr_47_73 : decode cr_47 73 = .ok (.ifCond .eq (14), 3) := by decide +kernel
theorem dr_47_76 : decode cr_47 76 = .ok (.aload_n 0, 1) := by decide +kernel
theorem dr_47_77 : decode cr_47 77 = .ok (.bipush 37, 2) := by decide +kernel
theorem dr_47_79 : decode cr_47 79 = .ok (.bipush 21, 2) := by decide +kernel
theorem dr_47_81 : decode cr_47 81 = .ok (.invokevirtual 241, 3) := by decide +kernel
theorem dr_47_84 : decode cr_47 84 = .ok (.goto (80), 3) := by decide +kernel
theorem dr_47_87 : decode cr_47 87 = .ok (.aload_n 0, 1) := by decide +kernel
theorem dr_47_88 : decode cr_47 88 = .ok (.bipush 11, 2) := by decide +kernel
theorem dr_47_90 : decode cr_47 90 = .ok (.invokevirtual 142, 3) := by decide +kernel
theorem dr_47_93 : decode cr_47 93 = .ok (.ifCond .eq (48), 3) := by decide +kernel
theorem dr_47_96 : decode cr_47 96 = .ok (.aload_n 0, 1) := by decide +kernel
theorem dr_47_97 : decode cr_47 97 = .ok (.dup, 1) := by decide +kernel
theorem dr_47_98 : decode cr_47 98 = .ok (.getfield 133, 3) := by decide +kernel
theorem dr_47_101 : decode cr_47 101 = .ok (.iconst 1, 1) := by decide +kernel
theorem dr_47_102 : decode cr_47 102 = .ok (.iadd, 1) := by decide +kernel
theorem dr_47_103 : decode cr_47 103 = .ok (.putfield 133, 3) := by decide +kernel
theorem dr_47_106 : decode cr_47 106 = .ok (.aload_n 0, 1) := by decide +kernel
theorem dr_47_107 : decode cr_47 107 = .ok (.bipush 19, 2) := by decide +kernel
theorem dr_47_109 : decode cr_47 109 = .ok (.bipush 94, 2) := by decide +kernel
theorem dr_47_111 : decode cr_47 111 = .ok (.invokevirtual 199, 3) := by decide +kernel
theorem dr_47_114 : decode cr_47 114 = .ok (.aload_n 0, 1) := by decide +kernel
theorem dr_47_115 : decode cr_47 115 = .ok (.bipush 39, 2) := by decide +kernel
theorem dr_47_117 : decode cr_47 117 = .ok (.bipush 59, 2) := by decide +kernel
theorem dr_47_119 : decode cr_47 119 = .ok (.invokevirtual 199, 3) := by decide +kernel
theorem dr_47_122 : decode cr_47 122 = .ok (.aload_n 0, 1) := by decide +kernel
theorem dr_47_123 : decode cr_47 123 = .ok (.bipush 59, 2) := by decide +kernel
theorem dr_47_125 : decode cr_47 125 = .ok (.invokevirtual 142, 3) := by decide +kernel
theorem dr_47_128 : decode cr_47 128 = .ok (.ifCond .ne (36), 3) := by decide +kernel
theorem dr_47_131 : decode cr_47 131 = .ok (.aload_n 0, 1) := by decide +kernel
theorem dr_47_132 : decode cr_47 132 = .ok (.bipush 22, 2) := by decide +kernel
theorem dr_47_134 : decode cr_47 134 = .ok (.iconst 0, 1) := by decide +kernel
theorem dr_47_135 : decode cr_47 135 = .ok (.invokevirtual 199, 3) := by decide +kernel
theorem dr_47_138 : decode cr_47 138 = .ok (.goto (26), 3) := by decide +kernel
theorem dr_47_141 : decode cr_47 141 = .ok (.aload_n 0, 1) := by decide +kernel
theorem dr_47_142 : decode cr_47 142 = .ok (.bipush 19, 2) := by decide +kernel
theorem dr_47_144 : decode cr_47 144 = .ok (.bipush 59, 2) := by decide +kernel
theorem dr_47_146 : decode cr_47 146 = .ok (.invokevirtual 199, 3) := by decide +kernel
theorem dr_47_149 : decode cr_47 149 = .ok (.aload_n 0, 1) := by decide +kernel
theorem dr_47_150 : decode cr_47 150 = .ok (.bipush 39, 2) := by decide +kernel
theorem dr_47_152 : decode cr_47 152 = .ok (.bipush 59, 2) := by decide +kernel
theorem dr_47_154 : decode cr_47 154 = .ok (.invokevirtual 199, 3) := by decide +kernel
theorem dr_47_157 : decode cr_47 157 = .ok (.aload_n 0, 1) := by decide +kernel
theorem dr_47_158 : decode cr_47 158 = .ok (.bipush 22, 2) := by decide +kernel
theorem dr_47_160 : decode cr_47 160 = .ok (.iconst 0, 1) := by decide +kernel
theorem dr_47_161 : decode cr_47 161 = .ok (.invokevirtual 199, 3) := by decide +kernel
theorem dr_47_164 : decode cr_47 164 = .ok (.return_, 1) := by decide +kernel
theorem dr_48_0 : decode cr_48 0 = .ok (.aload_n 0, 1) := by decide +kernel
theorem dr_48_1 : decode cr_48 1 = .ok (.dup, 1) := by decide +kernel
theorem dr_48_2 : decode cr_48 2 = .ok (.getfield 136, 3) := by decide +kernel
theorem dr_48_5 : decode cr_48 5 = .ok (.iconst 1, 1) := by decide +kernel
theorem dr_48_6 : decode cr_48 6 = .ok (.isub, 1) := by decide +kernel
theorem dr_48_7 : decode cr_48 7 = .ok (.putfield 136, 3) := by decide +kernel
theorem dr_48_10 : decode cr_48 10 = .ok (.aload_n 0, 1) := by decide +kernel
theorem dr_48_11 : decode cr_48 11 = .ok (.bipush 9, 2) := by decide +kernel
theorem dr_48_13 : decode cr_48 13 = .ok (.invokevirtual 142, 3) := by decide +kernel
theorem dr_48_16 : decode cr_48 16 = .ok (.ifCond .eq (27), 3) := by decide +kernel
theorem dr_48_19 : decode cr_48 19 = .ok (.aload_n 0, 1) := by decide +kernel
theorem dr_48_20 : decode cr_48 20 = .ok (.invokevirtual 229, 3) := by decide +kernel
theorem dr_48_23 : decode cr_48 23 = .ok (.aload_n 0, 1) := by decide +kernel
theorem dr_48_24 : decode cr_48 24 = .ok (.bipush 58, 2) := by decide +kernel
theorem dr_48_26 : decode cr_48 26 = .ok (.invokevirtual 177, 3) := by decide +kernel
theorem dr_48_29 : decode cr_48 29 = .ok (.aload_n 0, 1) := by decide +kernel
theorem dr_48_30 : decode cr_48 30 = .ok (.bipush 21, 2) := by decide +kernel
theorem dr_48_32 : decode cr_48 32 = .ok (.iconst 0, 1) := by decide +kernel
theorem dr_48_33 : decode cr_48 33 = .ok (.invokevirtual 199, 3) := by decide +kernel
theorem dr_48_36 : decode cr_48 36 = .ok (.aload_n 0, 1) := by decide +kernel
theorem dr_48_37 : decode cr_48 37 = .ok (.bipush 17, 2) := by decide +kernel
theorem dr_48_39 : decode cr_48 39 = .ok (.iconst 0, 1) := by decide +kernel
theorem dr_48_40 : decode cr_48 40 = .ok (.invokevirtual 199, 3) := by decide +kernel
theorem dr_48_43 : decode cr_48 43 = .ok (.return_, 1) := by decide +kernel
theorem dr_49_0 : decode cr_49 0 = .ok (.aload_n 0, 1) := by decide +kernel
theorem dr_49_1 : decode cr_49 1 = .ok (.bipush 60, 2) := by decide +kernel
theorem dr_49_3 : decode cr_49 3 = .ok (.invokevirtual 142, 3) := by decide +kernel
theorem dr_49_6 : decode cr_49 6 = .ok (.ifCond .eq (31), 3) := by decide +kernel
theorem dr_49_9 : decode cr_49 9 = .ok (.aload_n 0, 1) := by decide +kernel
theorem dr_49_10 : decode cr_49 10 = .ok (.dup, 1) := by decide +kernel
theorem dr_49_11 : decode cr_49 11 = .ok (.getfield 133, 3) := by decide +kernel
theorem dr_49_14 : decode cr_49 14 = .ok (.iconst 1, 1) := by decide +kernel
theorem dr_49_15 : decode cr_49 15 = .ok (.iadd, 1) := by decide +kernel
theorem dr_49_16 : decode cr_49 16 = .ok (.putfield 133, 3) := by decide +kernel
theorem dr_49_19 : decode cr_49 19 = .ok (.aload_n 0, 1) := by decide +kernel
theorem dr_49_20 : decode cr_49 20 = .ok (.bipush 36, 2) := by decide +kernel
theorem dr_49_22 : decode cr_49 22 = .ok (.bipush 60, 2) := by decide +kernel
theorem dr_49_24 : decode cr_49 24 = .ok (.invokevirtual 199, 3) := by decide +kernel
theorem dr_49_27 : decode cr_49 27 = .ok (.aload_n 0, 1) := by decide +kernel
theorem dr_49_28 : decode cr_49 28 = .ok (.bipush 24, 2) := by decide +kernel
theorem dr_49_30 : decode cr_49 30 = .ok (.iconst 0, 1) := by decide +kernel
theorem dr_49_31 : decode cr_49 31 = .ok (.invokevirtual 199, 3) := by decide +kernel
theorem dr_49_34 : decode cr_49 34 = .ok (.goto (44), 3) := by decide +kernel
theorem dr_49_37 : decode cr_49 37 = .ok (.aload_n 0, 1) := by decide +kernel
theorem dr_49_38 : decode cr_49 38 = .ok (.bipush 61, 2) := by decide +kernel
theorem dr_49_40 : decode cr_49 40 = .ok (.invokevirtual 142, 3) := by decide +kernel
theorem dr_49_43 : decode cr_49 43 = .ok (.ifCond .eq (35), 3) := by decide +kernel
theorem dr_49_46 : decode cr_49 46 = .ok (.aload_n 0, 1) := by decide +kernel
theorem dr_49_47 : decode cr_49 47 = .ok (.getfield 244, 3) := by decide +kernel
theorem dr_49_50 : decode cr_49 50 = .ok (.ifCond .eq (28), 3) := by decide +kernel
theorem dr_49_53 : decode cr_49 53 = .ok (.aload_n 0, 1) := by decide +kernel
theorem dr_49_54 : decode cr_49 54 = .ok (.dup, 1) := by decide +kernel
theorem dr_49_55 : decode cr_49 55 = .ok (.getfield 133, 3) := by decide +kernel
theorem dr_49_58 : decode cr_49 58 = .ok (.iconst 1, 1) := by decide +kernel
theorem dr_49_59 : decode cr_49 59 = .ok (.iadd, 1) := by decide +kernel
theorem dr_49_60 : decode cr_49 60 = .ok (.putfield 133, 3) := by decide +kernel
theorem dr_49_63 : decode cr_49 63 = .ok (.aload_n 0, 1) := by decide +kernel
theorem dr_49_64 : decode cr_49 64 = .ok (.bipush 36, 2) := by decide +kernel
theorem dr_49_66 : decode cr_49 66 = .ok (.bipush 61, 2) := by decide +kernel
theorem dr_49_68 : decode cr_49 68 = .ok (.invokevirtual 199, 3) := by decide +kernel
theorem dr_49_71 : decode cr_49 71 = .ok (.aload_n 0, 1) := by decide +kernel
theorem dr_49_72 : decode cr_49 72 = .ok (.bipush 22, 2) := by decide +kernel
theorem dr_49_74 : decode cr_49 74 = .ok (.iconst 0, 1) := by decide +kernel
theorem dr_49_75 : decode cr_49 75 = .ok (.invokevirtual 199, 3) := by decide +kernel
theorem dr_49_78 : decode cr_49 78 = .ok (.return_, 1) := by decide +kernel
theorem dr_50_0 : decode cr_50 0 = .ok (.aload_n 0, 1) := by decide +kernel
theorem dr_50_1 : decode cr_50 1 = .ok (.iload_n 1, 1) := by decide +kernel
theorem dr_50_2 : decode cr_50 2 = .ok (.invokevirtual 142, 3) := by decide +kernel
theorem dr_50_5 : decode cr_50 5 = .ok (.ifCond .ne (11), 3) := by decide +kernel
theorem dr_50_8 : decode cr_50 8 = .ok (.aload_n 0, 1) := by decide +kernel
theorem dr_50_9 : decode cr_50 9 = .ok (.iload_n 2, 1) := by decide +kernel
theorem dr_50_10 : decode cr_50 10 = .ok (.invokevirtual 142, 3) := by decide +kernel
theorem dr_50_13 : decode cr_50 13 = .ok (.ifCond .eq (41), 3) := by decide +kernel
theorem dr_50_16 : decode cr_50 16 = .ok (.aload_n 0, 1) := by decide +kernel
theorem dr_50_17 : decode cr_50 17 = .ok (.iload 4, 2) := by decide +kernel
theorem dr_50_19 : decode cr_50 19 = .ok (.iconst 0, 1) := by decide +kernel
theorem dr_50_20 : decode cr_50 20 = .ok (.invokevirtual 199, 3) := by decide +kernel
theorem dr_50_23 : decode cr_50 23 = .ok (.aload_n 0, 1) := by decide +kernel
theorem dr_50_24 : decode cr_50 24 = .ok (.bipush 36, 2) := by decide +kernel
theorem dr_50_26 : decode cr_50 26 = .ok (.aload_n 0, 1) := by decide +kernel
theorem dr_50_27 : decode cr_50 27 = .ok (.getfield 13, 3) := by decide +kernel
theorem dr_50_30 : decode cr_50 30 = .ok (.aload_n 0, 1) := by decide +kernel
theorem dr_50_31 : decode cr_50 31 = .ok (.getfield 133, 3) := by decide +kernel
theorem dr_50_34 : decode cr_50 34 = .ok (.iaload, 1) := by decide +kernel
theorem dr_50_35 : decode cr_50 35 = .ok (.invokevirtual 199, 3) := by decide +kernel
theorem dr_50_38 : decode cr_50 38 = .ok (.aload_n 0, 1) := by decide +kernel
theorem dr_50_39 : decode cr_50 39 = .ok (.iload_n 3, 1) := by decide +kernel
theorem dr_50_40 : decode cr_50 40 = .ok (.iconst 0, 1) := by decide +kernel
theorem dr_50_41 : decode cr_50 41 = .ok (.invokevirtual 199, 3) := by decide +kernel
theorem dr_50_44 : decode cr_50 44 = .ok (.aload_n 0, 1) := by decide +kernel
theorem dr_50_45 : decode cr_50 45 = .ok (.dup, 1) := by decide +kernel
theorem dr_50_46 : decode cr_50 46 = .ok (.getfield 133, 3) := by decide +kernel
theorem dr_50_49 : decode cr_50 49 = .ok (.iconst 1, 1) := by decide +kernel
theorem dr_50_50 : decode cr_50 50 = .ok (.iadd, 1) := by decide +kernel
theorem dr_50_51 : decode cr_50 51 = .ok (.putfield 133, 3) := by decide +kernel
theorem dr_50_54 : decode cr_50 54 = .ok (.return_, 1) := by decide +kernel
theorem dr_51_0 : decode cr_51 0 = .ok (.aload_n 0, 1) := by decide +kernel
theorem dr_51_1 : decode cr_51 1 = .ok (.bipush 40, 2) := by decide +kernel
theorem dr_51_3 : decode cr_51 3 = .ok (.invokevirtual 142, 3) := by decide +kernel
theorem dr_51_6 : decode cr_51 6 = .ok (.ifCond .eq (20), 3) := by decide +kernel
theorem dr_51_9 : decode cr_51 9 = .ok (.aload_n 0, 1) := by decide +kernel
theorem dr_51_10 : decode cr_51 10 = .ok (.aload_n 0, 1) := by decide +kernel
theorem dr_51_11 : decode cr_51 11 = .ok (.getfield 133, 3) := by decide +kernel
theorem dr_51_14 : decode cr_51 14 = .ok (.iconst 1, 1) := by decide +kernel
theorem dr_51_15 : decode cr_51 15 = .ok (.iadd, 1) := by decide +kernel
theorem dr_51_16 : decode cr_51 16 = .ok (.invokevirtual 158, 3) := by decide +kernel
theorem dr_51_19 : decode cr_51 19 = .ok (.ifCond .eq (7), 3) := by decide +kernel
theorem dr_51_22 : decode cr_51 22 = .ok (.iconst 1, 1) := by decide +kernel
theorem dr_51_23 : decode cr_51 23 = .ok (.goto (4), 3) := by decide +kernel
theorem dr_51_26 : decode cr_51 26 = .ok (.iconst 0, 1) := by decide +kernel
theorem dr_51_27 : decode cr_51 27 = .ok (.ireturn, 1) := by decide +kernel
theorem dr_52_0 : decode cr_52 0 = .ok (.aload_n 0, 1) := by decide +kernel
theorem dr_52_1 : decode cr_52 1 = .ok (.invokevirtual 229, 3) := by decide +kernel
theorem dr_52_4 : decode cr_52 4 = .ok (.aload_n 0, 1) := by decide +kernel
theorem dr_52_5 : decode cr_52 5 = .ok (.invokevirtual 189, 3) := by decide +kernel
theorem dr_52_8 : decode cr_52 8 = .ok (.istore_n 2, 1) := by decide +kernel
theorem dr_52_9 : decode cr_52 9 = .ok (.aload_n 0, 1) := by decide +kernel
theorem dr_52_10 : decode cr_52 10 = .ok (.iconst 0, 1) := by decide +kernel
theorem dr_52_11 : decode cr_52 11 = .ok (.putfield 164, 3) := by decide +kernel
theorem dr_52_14 : decode cr_52 14 = .ok (.aload_n 0, 1) := by decide +kernel
theorem dr_52_15 : decode cr_52 15 = .ok (.iconst 0, 1) := by decide +kernel
theorem dr_52_16 : decode cr_52 16 = .ok (.putfield 183, 3) := by decide +kernel
theorem dr_52_19 : decode cr_52 19 = .ok (.aload_n 0, 1) := by decide +kernel
theorem dr_52_20 : decode cr_52 20 = .ok (.iconst (-1), 1) := by decide +kernel
theorem dr_52_21 : decode cr_52 21 = .ok (.putfield 180, 3) := by decide +kernel
theorem dr_52_24 : decode cr_52 24 = .ok (.aload_n 0, 1) := by decide +kernel
theorem dr_52_25 : decode cr_52 25 = .ok (.iload_n 1, 1) := by decide +kernel
theorem dr_52_26 : decode cr_52 26 = .ok (.iload_n 2, 1) := by decide +kernel
theorem dr_52_27 : decode cr_52 27 = .ok (.invokevirtual 199, 3) := by decide +kernel
theorem dr_52_30 : decode cr_52 30 = .ok (.aload_n 0, 1) := by decide +kernel
theorem dr_52_31 : decode cr_52 31 = .ok (.bipush 6, 2) := by decide +kernel
theorem dr_52_33 : decode cr_52 33 = .ok (.iconst 2, 1) := by decide +kernel
theorem dr_52_34 : decode cr_52 34 = .ok (.invokevirtual 199, 3) := by decide +kernel
theorem dr_52_37 : decode cr_52 37 = .ok (.return_, 1) := by decide +kernel
theorem dr_53_0 : decode cr_53 0 = .ok (.aload_n 0, 1) := by decide +kernel
theorem dr_53_1 : decode cr_53 1 = .ok (.invokevirtual 247, 3) := by decide +kernel
theorem dr_53_4 : decode cr_53 4 = .ok (.ifCond .eq (26), 3) := by decide +kernel
theorem dr_53_7 : decode cr_53 7 = .ok (.aload_n 0, 1) := by decide +kernel
theorem dr_53_8 : decode cr_53 8 = .ok (.bipush 30, 2) := by decide +kernel
theorem dr_53_10 : decode cr_53 10 = .ok (.iconst 0, 1) := by decide +kernel
theorem dr_53_11 : decode cr_53 11 = .ok (.invokevirtual 199, 3) := by decide +kernel
theorem dr_53_14 : decode cr_53 14 = .ok (.aload_n 0, 1) := by decide +kernel
theorem dr_53_15 : decode cr_53 15 = .ok (.bipush 28, 2) := by decide +kernel
theorem dr_53_17 : decode cr_53 17 = .ok (.iconst 0, 1) := by decide +kernel
theorem dr_53_18 : decode cr_53 18 = .ok (.invokevirtual 199, 3) := by decide +kernel
theorem dr_53_21 : decode cr_53 21 = .ok (.aload_n 0, 1) := by decide +kernel
theorem dr_53_22 : decode cr_53 22 = .ok (.bipush 29, 2) := by decide +kernel
theorem dr_53_24 : decode cr_53 24 = .ok (.invokevirtual 251, 3) := by decide +kernel
theorem dr_53_27 : decode cr_53 27 = .ok (.goto (10), 3) := by decide +kernel
theorem dr_53_30 : decode cr_53 30 = .ok (.aload_n 0, 1) := by decide +kernel
theorem dr_53_31 : decode cr_53 31 = .ok (.bipush 31, 2) := by decide +kernel
theorem dr_53_33 : decode cr_53 33 = .ok (.iconst 0, 1) := by decide +kernel
theorem dr_53_34 : decode cr_53 34 = .ok (.invokevirtual 199, 3) := by decide +kernel
theorem dr_53_37 : decode cr_53 37 = .ok (.return_, 1) := by decide +kernel
theorem dr_54_0 : decode cr_54 0 = .ok (.aload_n 0, 1) := by decide +kernel
theorem dr_54_1 : decode cr_54 1 = .ok (.iload_n 1, 1) := by decide +kernel
theorem dr_54_2 : decode cr_54 2 = .ok (.invokevirtual 203, 3) := by decide +kernel
theorem dr_54_5 : decode cr_54 5 = .ok (.aload_n 0, 1) := by decide +kernel
theorem dr_54_6 : decode cr_54 6 = .ok (.bipush 41, 2) := by decide +kernel
theorem dr_54_8 : decode cr_54 8 = .ok (.iconst 1, 1) := by decide +kernel
theorem dr_54_9 : decode cr_54 9 = .ok (.invokevirtual 216, 3) := by decide +kernel
theorem dr_54_12 : decode cr_54 12 = .ok (.iconst 0, 1) := by decide +kernel
theorem dr_54_13 : decode cr_54 13 = .ok (.istore_n 2, 1) := by decide +kernel
theorem dr_54_14 : decode cr_54 14 = .ok (.iload_n 2, 1) := by decide +kernel
theorem dr_54_15 : decode cr_54 15 = .ok (.aload_n 0, 1) := by decide +kernel
theorem dr_54_16 : decode cr_54 16 = .ok (.getfield 164, 3) := by decide +kernel
theorem dr_54_19 : decode cr_54 19 = .ok (.if_icmp .ge (34), 3) := by decide +kernel
theorem dr_54_22 : decode cr_54 22 = .ok (.aload_n 0, 1) := by decide +kernel
theorem dr_54_23 : decode cr_54 23 = .ok (.getfield 69, 3) := by decide +kernel
theorem dr_54_26 : decode cr_54 26 = .ok (.aload_n 0, 1) := by decide +kernel
theorem dr_54_27 : decode cr_54 27 = .ok (.getfield 254, 3) := by decide +kernel
theorem dr_54_30 : decode cr_54 30 = .ok (.aload_n 0, 1) := by decide +kernel
theorem dr_54_31 : decode cr_54 31 = .ok (.getfield 66, 3) := by decide +kernel
theorem dr_54_34 : decode cr_54 34 = .ok (.iload_n 2, 1) := by decide +kernel
theorem dr_54_35 : decode cr_54 35 = .ok (.iaload, 1) := by decide +kernel
theorem dr_54_36 : decode cr_54 36 = .ok (.iastore, 1) := by decide +kernel
theorem dr_54_37 : decode cr_54 37 = .ok (.aload_n 0, 1) := by decide +kernel
theorem dr_54_38 : decode cr_54 38 = .ok (.dup, 1) := by decide +kernel
theorem dr_54_39 : decode cr_54 39 = .ok (.getfield 254, 3) := by decide +kernel
theorem dr_54_42 : decode cr_54 42 = .ok (.iconst 1, 1) := by decide +kernel
theorem dr_54_43 : decode cr_54 43 = .ok (.iadd, 1) := by decide +kernel
theorem dr_54_44 : decode cr_54 44 = .ok (.putfield 254, 3) := by decide +kernel
theorem dr_54_47 : decode cr_54 47 = .ok (.iinc 2 1, 3) := by decide +kernel
theorem dr_54_50 : decode cr_54 50 = .ok (.goto (-36), 3) := by decide +kernel
theorem dr_54_53 : decode cr_54 53 = .ok (.aload_n 0, 1) := by decide +kernel
theorem dr_54_54 : decode cr_54 54 = .ok (.getfield 69, 3) := by decide +kernel
theorem dr_54_57 : decode cr_54 57 = .ok (.aload_n 0, 1) := by decide +kernel
theorem dr_54_58 : decode cr_54 58 = .ok (.getfield 254, 3) := by decide +kernel
theorem dr_54_61 : decode cr_54 61 = .ok (.aload_n 0, 1) := by decide +kernel
theorem dr_54_62 : decode cr_54 62 = .ok (.getfield 164, 3) := by decide +kernel
theorem dr_54_65 : decode cr_54 65 = .ok (.iastore, 1) := by decide +kernel
theorem dr_54_66 : decode cr_54 66 = .ok (.aload_n 0, 1) := by decide +kernel
theorem dr_54_67 : decode cr_54 67 = .ok (.dup, 1) := by decide +kernel
theorem dr_54_68 : decode cr_54 68 = .ok (.getfield 254, 3) := by decide +kernel
theorem dr_54_71 : decode cr_54 71 = .ok (.iconst 1, 1) := by decide +kernel
theorem dr_54_72 : decode cr_54 72 = .ok (.iadd, 1) := by decide +kernel
theorem dr_54_73 : decode cr_54 73 = .ok (.putfield 254, 3) := by decide +kernel
theorem dr_54_76 : decode cr_54 76 = .ok (.return_, 1) := by decide +kernel
theorem dr_55_0 : decode cr_55 0 = .ok (.aload_n 0, 1) := by decide +kernel
theorem dr_55_1 : decode cr_55 1 = .ok (.dup, 1) := by decide +kernel
theorem dr_55_2 : decode cr_55 2 = .ok (.getfield 254, 3) := by decide +kernel
theorem dr_55_5 : decode cr_55 5 = .ok (.iconst 1, 1) := by decide +kernel
theorem dr_55_6 : decode cr_55 6 = .ok (.isub, 1) := by decide +kernel
theorem dr_55_7 : decode cr_55 7 = .ok (.putfield 254, 3) := by decide +kernel
theorem dr_55_10 : decode cr_55 10 = .ok (.aload_n 0, 1) := by decide +kernel
theorem dr_55_11 : decode cr_55 11 = .ok (.getfield 69, 3) := by decide +kernel
theorem dr_55_14 : decode cr_55 14 = .ok (.aload_n 0, 1) := by decide +kernel
theorem dr_55_15 : decode cr_55 15 = .ok (.getfield 254, 3) := by decide +kernel
theorem dr_55_18 : decode cr_55 18 = .ok (.iaload, 1) := by decide +kernel
theorem dr_55_19 : decode cr_55 19 = .ok (.istore_n 1, 1) := by decide +kernel
theorem dr_55_20 : decode cr_55 20 = .ok (.aload_n 0, 1) := by decide +kernel
theorem dr_55_21 : decode cr_55 21 = .ok (.aload_n 0, 1) := by decide +kernel
theorem dr_55_22 : decode cr_55 22 = .ok (.getfield 254, 3) := by decide +kernel
theorem dr_55_25 : decode cr_55 25 = .ok (.iload_n 1, 1) := by decide +kernel
theorem dr_55_26 : decode cr_55 26 = .ok (.isub, 1) := by decide +kernel
theorem dr_55_27 : decode cr_55 27 = .ok (.putfield 254, 3) := by decide +kernel
theorem dr_55_30 : decode cr_55 30 = .ok (.aload_n 0, 1) := by decide +kernel
theorem dr_55_31 : decode cr_55 31 = .ok (.bipush 91, 2) := by decide +kernel
theorem dr_55_33 : decode cr_55 33 = .ok (.invokevirtual 177, 3) := by decide +kernel
theorem dr_55_36 : decode cr_55 36 = .ok (.iconst 0, 1) := by decide +kernel
theorem dr_55_37 : decode cr_55 37 = .ok (.istore_n 2, 1) := by decide +kernel
theorem dr_55_38 : decode cr_55 38 = .ok (.iload_n 2, 1) := by decide +kernel
theorem dr_55_39 : decode cr_55 39 = .ok (.iload_n 1, 1) := by decide +kernel
theorem dr_55_40 : decode cr_55 40 = .ok (.if_icmp .ge (24), 3) := by decide +kernel
theorem dr_55_43 : decode cr_55 43 = .ok (.aload_n 0, 1) := by decide +kernel
theorem dr_55_44 : decode cr_55 44 = .ok (.aload_n 0, 1) := by decide +kernel
theorem dr_55_45 : decode cr_55 45 = .ok (.getfield 69, 3) := by decide +kernel
theorem dr_55_48 : decode cr_55 48 = .ok (.aload_n 0, 1) := by decide +kernel
theorem dr_55_49 : decode cr_55 49 = .ok (.getfield 254, 3) := by decide +kernel
theorem dr_55_52 : decode cr_55 52 = .ok (.iload_n 2, 1) := by decide +kernel
theorem dr_55_53 : decode cr_55 53 = .ok (.iadd, 1) := by decide +kernel
theorem dr_55_54 : decode cr_55 54 = .ok (.iaload, 1) := by decide +kernel
theorem dr_55_55 : decode cr_55 55 = .ok (.invokevirtual 177, 3) := by decide +kernel
theorem dr_55_58 : decode cr_55 58 = .ok (.iinc 2 1, 3) := by decide +kernel
theorem dr_55_61 : decode cr_55 61 = .ok (.goto (-23), 3) := by decide +kernel
theorem dr_55_64 : decode cr_55 64 = .ok (.aload_n 0, 1) := by decide +kernel
theorem dr_55_65 : decode cr_55 65 = .ok (.bipush 93, 2) := by decide +kernel
theorem dr_55_67 : decode cr_55 67 = .ok (.invokevirtual 177, 3) := by decide +kernel
theorem dr_55_70 : decode cr_55 70 = .ok (.aload_n 0, 1) := by decide +kernel
theorem dr_55_71 : decode cr_55 71 = .ok (.iconst 0, 1) := by decide +kernel
theorem dr_55_72 : decode cr_55 72 = .ok (.putfield 244, 3) := by decide +kernel
theorem dr_55_75 : decode cr_55 75 = .ok (.return_, 1) := by decide +kernel
theorem dr_56_0 : decode cr_56 0 = .ok (.aload_n 0, 1) := by decide +kernel
theorem dr_56_1 : decode cr_56 1 = .ok (.iload_n 1, 1) := by decide +kernel
theorem dr_56_2 : decode cr_56 2 = .ok (.invokevirtual 203, 3) := by decide +kernel
theorem dr_56_5 : decode cr_56 5 = .ok (.aload_n 0, 1) := by decide +kernel
theorem dr_56_6 : decode cr_56 6 = .ok (.bipush 41, 2) := by decide +kernel
theorem dr_56_8 : decode cr_56 8 = .ok (.iconst 1, 1) := by decide +kernel
theorem dr_56_9 : decode cr_56 9 = .ok (.invokevirtual 216, 3) := by decide +kernel
theorem dr_56_12 : decode cr_56 12 = .ok (.aload_n 0, 1) := by decide +kernel
theorem dr_56_13 : decode cr_56 13 = .ok (.bipush 91, 2) := by decide +kernel
theorem dr_56_15 : decode cr_56 15 = .ok (.invokevirtual 177, 3) := by decide +kernel
theorem dr_56_18 : decode cr_56 18 = .ok (.aload_n 0, 1) := by decide +kernel
theorem dr_56_19 : decode cr_56 19 = .ok (.invokevirtual 213, 3) := by decide +kernel
theorem dr_56_22 : decode cr_56 22 = .ok (.aload_n 0, 1) := by decide +kernel
theorem dr_56_23 : decode cr_56 23 = .ok (.bipush 93, 2) := by decide +kernel
theorem dr_56_25 : decode cr_56 25 = .ok (.invokevirtual 177, 3) := by decide +kernel
theorem dr_56_28 : decode cr_56 28 = .ok (.aload_n 0, 1) := by decide +kernel
theorem dr_56_29 : decode cr_56 29 = .ok (.bipush 36, 2) := by decide +kernel
theorem dr_56_31 : decode cr_56 31 = .ok (.invokevirtual 177, 3) := by decide +kernel
theorem dr_56_34 : decode cr_56 34 = .ok (.aload_n 0, 1) := by decide +kernel
theorem dr_56_35 : decode cr_56 35 = .ok (.iconst 0, 1) := by decide +kernel
theorem dr_56_36 : decode cr_56 36 = .ok (.putfield 244, 3) := by decide +kernel
theorem dr_56_39 : decode cr_56 39 = .ok (.return_, 1) := by decide +kernel
theorem dr_57_0 : decode cr_57 0 = .ok (.aload_n 0, 1) := by decide +kernel
theorem dr_57_1 : decode cr_57 1 = .ok (.bipush 42, 2) := by decide +kernel
theorem dr_57_3 : decode cr_57 3 = .ok (.invokevirtual 142, 3) := by decide +kernel
theorem dr_57_6 : decode cr_57 6 = .ok (.ifCond .eq (10), 3) := by decide +kernel
theorem dr_57_9 : decode cr_57 9 = .ok (.aload_n 0, 1) := by decide +kernel
theorem dr_57_10 : decode cr_57 10 = .ok (.bipush 37, 2) := by decide +kernel
theorem dr_57_12 : decode cr_57 12 = .ok (.iconst 0, 1) := by decide +kernel
theorem dr_57_13 : decode cr_57 13 = .ok (.invokevirtual 199, 3) := by decide +kernel
theorem dr_57_16 : decode cr_57 16 = .ok (.aload_n 0, 1) := by decide +kernel
theorem dr_57_17 : decode cr_57 17 = .ok (.bipush 45, 2) := by decide +kernel
theorem dr_57_19 : decode cr_57 19 = .ok (.invokevirtual 142, 3) := by decide +kernel
theorem dr_57_22 : decode cr_57 22 = .ok (.ifCond .ne (30), 3) := by decide +kernel
theorem dr_57_25 : decode cr_57 25 = .ok (.aload_n 0, 1) := by decide +kernel
theorem dr_57_26 : decode cr_57 26 = .ok (.bipush 42, 2) := by decide +kernel
theorem dr_57_28 : decode cr_57 28 = .ok (.invokevirtual 142, 3) := by decide +kernel
theorem dr_57_31 : decode cr_57 31 = .ok (.ifCond .ne (21), 3) := by decide +kernel
theorem dr_57_34 : decode cr_57 34 = .ok (.aload_n 0, 1) := by decide +kernel
theorem dr_57_35 : decode cr_57 35 = .ok (.bipush 38, 2) := by decide +kernel
theorem dr_57_37 : decode cr_57 37 = .ok (.invokevirtual 142, 3) := by decide +kernel
theorem dr_57_40 : decode cr_57 40 = .ok (.ifCond .ne (12), 3) := by decide +kernel
theorem dr_57_43 : decode cr_57 43 = .ok (.aload_n 0, 1) := by decide +kernel
theorem dr_57_44 : decode cr_57 44 = .ok (.bipush 33, 2) := by decide +kernel
theorem dr_57_46 : decode cr_57 46 = .ok (.invokevirtual 142, 3) := by decide +kernel
theorem dr_57_49 : decode cr_57 49 = .ok (.ifCond .eq (66), 3) := by decide +kernel
theorem dr_57_52 : decode cr_57 52 = .ok (.aload_n 0, 1) := by decide +kernel
theorem dr_57_53 : decode cr_57 53 = .ok (.bipush 36, 2) := by decide +kernel
theorem dr_57_55 : decode cr_57 55 = .ok (.aload_n 0, 1) := by decide +kernel
theorem dr_57_56 : decode cr_57 56 = .ok (.bipush 45, 2) := by decide +kernel
theorem dr_57_58 : decode cr_57 58 = .ok (.invokevirtual 142, 3) := by decide +kernel
theorem dr_57_61 : decode cr_57 61 = .ok (.ifCond .eq (8), 3) := by decide +kernel
theorem dr_57_64 : decode cr_57 64 = .ok (.bipush 126, 2) := by decide +kernel
theorem dr_57_66 : decode cr_57 66 = .ok (.goto (26), 3) := by decide +kernel
theorem dr_57_69 : decode cr_57 69 = .ok (.aload_n 0, 1) := by decide +kernel
theorem dr_57_70 : decode cr_57 70 = .ok (.bipush 42, 2) := by decide +kernel
theorem dr_57_72 : decode cr_57 72 = .ok (.invokevirtual 142, 3) := by decide +kernel
theorem dr_57_75 : decode cr_57 75 = .ok (.ifCond .eq (8), 3) := by decide +kernel
theorem dr_57_78 : decode cr_57 78 = .ok (.bipush 64, 2) := by decide +kernel
theorem dr_57_80 : decode cr_57 80 = .ok (.goto (12), 3) := by decide +kernel
theorem dr_57_83 : decode cr_57 83 = .ok (.aload_n 0, 1) := by decide +kernel
theorem dr_57_84 : decode cr_57 84 = .ok (.getfield 13, 3) := by decide +kernel
theorem dr_57_87 : decode cr_57 87 = .ok (.aload_n 0, 1) := by decide +kernel
theorem dr_57_88 : decode cr_57 88 = .ok (.getfield 133, 3) := by decide +kernel
theorem dr_57_91 : decode cr_57 91 = .ok (.iaload, 1) := by decide +kernel
theorem dr_57_92 : decode cr_57 92 = .ok (.invokevirtual 199, 3) := by decide +kernel
theorem dr_57_95 : decode cr_57 95 = .ok (.aload_n 0, 1) := by decide +kernel
theorem dr_57_96 : decode cr_57 96 = .ok (.bipush 28, 2) := by decide +kernel
theorem dr_57_98 : decode cr_57 98 = .ok (.iconst 0, 1) := by decide +kernel
theorem dr_57_99 : decode cr_57 99 = .ok (.invokevirtual 199, 3) := by decide +kernel
theorem dr_57_102 : decode cr_57 102 = .ok (.aload_n 0, 1) := by decide +kernel
theorem dr_57_103 : decode cr_57 103 = .ok (.dup, 1) := by decide +kernel
theorem dr_57_104 : decode cr_57 104 = .ok (.getfield 133, 3) := by decide +kernel
theorem dr_57_107 : decode cr_57 107 = .ok (.iconst 1, 1) := by decide +kernel
theorem dr_57_108 : decode cr_57 108 = .ok (.iadd, 1) := by decide +kernel
theorem dr_57_109 : decode cr_57 109 = .ok (.putfield 133, 3) := by decide +kernel
theorem dr_57_112 : decode cr_57 112 = .ok (.goto (63), 3) := by decide +kernel
theorem dr_57_115 : decode cr_57 115 = .ok (.aload_n 0, 1) := by decide +kernel
theorem dr_57_116 : decode cr_57 116 = .ok (.bipush 12, 2) := by decide +kernel
theorem dr_57_118 : decode cr_57 118 = .ok (.invokevirtual 142, 3) := by decide +kernel
theorem dr_57_121 : decode cr_57 121 = .ok (.ifCond .eq (47), 3) := by decide +kernel
theorem dr_57_124 : decode cr_57 124 = .ok (.aload_n 0, 1) := by decide +kernel
theorem dr_57_125 : decode cr_57 125 = .ok (.dup, 1) := by decide +kernel
theorem dr_57_126 : decode cr_57 126 = .ok (.getfield 133, 3) := by decide +kernel
theorem dr_57_129 : decode cr_57 129 = .ok (.iconst 1, 1) := by decide +kernel
theorem dr_57_130 : decode cr_57 130 = .ok (.iadd, 1) := by decide +kernel
theorem dr_57_131 : decode cr_57 131 = .ok (.putfield 133, 3) := by decide +kernel
theorem dr_57_134 : decode cr_57 134 = .ok (.aload_n 0, 1) := by decide +kernel
theorem dr_57_135 : decode cr_57 135 = .ok (.invokevirtual 247, 3) := by decide +kernel
theorem dr_57_138 : decode cr_57 138 = .ok (.ifCond .eq (12), 3) := by decide +kernel
theorem dr_57_141 : decode cr_57 141 = .ok (.aload_n 0, 1) := by decide +kernel
theorem dr_57_142 : decode cr_57 142 = .ok (.bipush 32, 2) := by decide +kernel
theorem dr_57_144 : decode cr_57 144 = .ok (.invokevirtual 251, 3) := by decide +kernel
theorem dr_57_147 : decode cr_57 147 = .ok (.goto (28), 3) := by decide +kernel
theorem dr_57_150 : decode cr_57 150 = .ok (.aload_n 0, 1) := by decide +kernel
theorem dr_57_151 : decode cr_57 151 = .ok (.bipush 36, 2) := by decide +kernel
theorem dr_57_153 : decode cr_57 153 = .ok (.bipush 36, 2) := by decide +kernel
theorem dr_57_155 : decode cr_57 155 = .ok (.invokevirtual 199, 3) := by decide +kernel
theorem dr_57_158 : decode cr_57 158 = .ok (.aload_n 0, 1) := by decide +kernel
theorem dr_57_159 : decode cr_57 159 = .ok (.bipush 31, 2) := by decide +kernel
theorem dr_57_161 : decode cr_57 161 = .ok (.iconst 0, 1) := by decide +kernel
theorem dr_57_162 : decode cr_57 162 = .ok (.invokevirtual 199, 3) := by decide +kernel
theorem dr_57_165 : decode cr_57 165 = .ok (.goto (10), 3) := by decide +kernel
theorem dr_57_168 : decode cr_57 168 = .ok (.aload_n 0, 1) := by decide +kernel
theorem dr_57_169 : decode cr_57 169 = .ok (.bipush 33, 2) := by decide +kernel
theorem dr_57_171 : decode cr_57 171 = .ok (.iconst 0, 1) := by decide +kernel
theorem dr_57_172 : decode cr_57 172 = .ok (.invokevirtual 199, 3) := by decide +kernel
theorem dr_57_175 : decode cr_57 175 = .ok (.return_, 1) := by decide +kernel
theorem dr_58_0 : decode cr_58 0 = .ok (.aload_n 0, 1) := by decide +kernel
theorem dr_58_1 : decode cr_58 1 = .ok (.bipush 34, 2) := by decide +kernel
theorem dr_58_3 : decode cr_58 3 = .ok (.iconst 0, 1) := by decide +kernel
theorem dr_58_4 : decode cr_58 4 = .ok (.invokevirtual 199, 3) := by decide +kernel
theorem dr_58_7 : decode cr_58 7 = .ok (.aload_n 0, 1) := by decide +kernel
theorem dr_58_8 : decode cr_58 8 = .ok (.iconst 1, 1) := by decide +kernel
theorem dr_58_9 : decode cr_58 9 = .ok (.invokevirtual 142, 3) := by decide +kernel
theorem dr_58_12 : decode cr_58 12 = .ok (.ifCond .eq (14), 3) := by decide +kernel
theorem dr_58_15 : decode cr_58 15 = .ok (.aload_n 0, 1) := by decide +kernel
theorem dr_58_16 : decode cr_58 16 = .ok (.aload_n 0, 1) := by decide +kernel
theorem dr_58_17 : decode cr_58 17 = .ok (.getfield 133, 3) := by decide +kernel
theorem dr_58_20 : decode cr_58 20 = .ok (.invokevirtual 151, 3) := by decide +kernel
theorem dr_58_23 : decode cr_58 23 = .ok (.goto (4), 3) := by decide +kernel
theorem dr_58_26 : decode cr_58 26 = .ok (.iconst (-1), 1) := by decide +kernel
theorem dr_58_27 : decode cr_58 27 = .ok (.istore_n 1, 1) := by decide +kernel
theorem dr_58_28 : decode cr_58 28 = .ok (.aload_n 0, 1) := by decide +kernel
theorem dr_58_29 : decode cr_58 29 = .ok (.bipush 40, 2) := by decide +kernel
theorem dr_58_31 : decode cr_58 31 = .ok (.invokevirtual 142, 3) := by decide +kernel
theorem dr_58_34 : decode cr_58 34 = .ok (.ifCond .eq (32), 3) := by decide +kernel
theorem dr_58_37 : decode cr_58 37 = .ok (.aload_n 0, 1) := by decide +kernel
theorem dr_58_38 : decode cr_58 38 = .ok (.bipush 38, 2) := by decide +kernel
theorem dr_58_40 : decode cr_58 40 = .ok (.iconst 0, 1) := by decide +kernel
theorem dr_58_41 : decode cr_58 41 = .ok (.invokevirtual 199, 3) := by decide +kernel
theorem dr_58_44 : decode cr_58 44 = .ok (.aload_n 0, 1) := by decide +kernel
theorem dr_58_45 : decode cr_58 45 = .ok (.bipush 18, 2) := by decide +kernel
theorem dr_58_47 : decode cr_58 47 = .ok (.bipush 41, 2) := by decide +kernel
theorem dr_58_49 : decode cr_58 49 = .ok (.invokevirtual 199, 3) := by decide +kernel
theorem dr_58_52 : decode cr_58 52 = .ok (.aload_n 0, 1) := by decide +kernel
theorem dr_58_53 : decode cr_58 53 = .ok (.bipush 22, 2) := by decide +kernel
theorem dr_58_55 : decode cr_58 55 = .ok (.iconst 0, 1) := by decide +kernel
theorem dr_58_56 : decode cr_58 56 = .ok (.invokevirtual 199, 3) := by decide +kernel
theorem dr_58_59 : decode cr_58 59 = .ok (.aload_n 0, 1) := by decide +kernel
theorem dr_58_60 : decode cr_58 60 = .ok (.invokevirtual 229, 3) := by decide +kernel
theorem dr_58_63 : decode cr_58 63 = .ok (.goto (92), 3) := by decide +kernel
theorem dr_58_66 : decode cr_58 66 = .ok (.aload_n 0, 1) := by decide +kernel
theorem dr_58_67 : decode cr_58 67 = .ok (.iconst 2, 1) := by decide +kernel
theorem dr_58_68 : decode cr_58 68 = .ok (.invokevirtual 142, 3) := by decide +kernel
theorem dr_58_71 : decode cr_58 71 = .ok (.ifCond .ne (17), 3) := by decide +kernel
theorem dr_58_74 : decode cr_58 74 = .ok (.iload_n 1, 1) := by decide +kernel
theorem dr_58_75 : decode cr_58 75 = .ok (.ifCond .lt (76), 3) := by decide +kernel
theorem dr_58_78 : decode cr_58 78 = .ok (.aload_n 0, 1) := by decide +kernel
theorem dr_58_79 : decode cr_58 79 = .ok (.getfield 50, 3) := by decide +kernel
theorem dr_58_82 : decode cr_58 82 = .ok (.iload_n 1, 1) := by decide +kernel
theorem dr_58_83 : decode cr_58 83 = .ok (.iaload, 1) := by decide +kernel
theorem dr_58_84 : decode cr_58 84 = .ok (.iconst 1, 1) := by decide +kernel
theorem dr_58_85 : decode cr_58 85 = .ok (.if_icmp .eq (66), 3) := by decide +kernel
theorem dr_58_88 : decode cr_58 88 = .ok (.aload_n 0, 1) := by decide +kernel
theorem dr_58_89 : decode cr_58 89 = .ok (.aload_n 0, 1) := by decide +kernel
theorem dr_58_90 : decode cr_58 90 = .ok (.iconst 1, 1) := by decide +kernel
theorem dr_58_91 : decode cr_58 91 = .ok (.invokevirtual 142, 3) := by decide +kernel
theorem dr_58_94 : decode cr_58 94 = .ok (.putfield 244, 3) := by decide +kernel
theorem dr_58_97 : decode cr_58 97 = .ok (.aload_n 0, 1) := by decide +kernel
theorem dr_58_98 : decode cr_58 98 = .ok (.getfield 244, 3) := by decide +kernel
theorem dr_58_101 : decode cr_58 101 = .ok (.ifCond .eq (23), 3) := by decide +kernel
theorem dr_58_104 : decode cr_58 104 = .ok (.aload_n 0, 1) := by decide +kernel
theorem dr_58_105 : decode cr_58 105 = .ok (.getfield 22, 3) := by decide +kernel
theorem dr_58_108 : decode cr_58 108 = .ok (.aload_n 0, 1) := by decide +kernel
theorem dr_58_109 : decode cr_58 109 = .ok (.getfield 133, 3) := by decide +kernel
theorem dr_58_112 : decode cr_58 112 = .ok (.iconst 2, 1) := by decide +kernel
theorem dr_58_113 : decode cr_58 113 = .ok (.iastore, 1) := by decide +kernel
theorem dr_58_114 : decode cr_58 114 = .ok (.aload_n 0, 1) := by decide +kernel
theorem dr_58_115 : decode cr_58 115 = .ok (.getfield 25, 3) := by decide +kernel
theorem dr_58_118 : decode cr_58 118 = .ok (.aload_n 0, 1) := by decide +kernel
theorem dr_58_119 : decode cr_58 119 = .ok (.getfield 133, 3) := by decide +kernel
theorem dr_58_122 : decode cr_58 122 = .ok (.iload_n 1, 1) := by decide +kernel
theorem dr_58_123 : decode cr_58 123 = .ok (.iastore, 1) := by decide +kernel
theorem dr_58_124 : decode cr_58 124 = .ok (.aload_n 0, 1) := by decide +kernel
theorem dr_58_125 : decode cr_58 125 = .ok (.aload_n 0, 1) := by decide +kernel
theorem dr_58_126 : decode cr_58 126 = .ok (.getfield 133, 3) := by decide +kernel
theorem dr_58_129 : decode cr_58 129 = .ok (.invokevirtual 210, 3) := by decide +kernel
theorem dr_58_132 : decode cr_58 132 = .ok (.aload_n 0, 1) := by decide +kernel
theorem dr_58_133 : decode cr_58 133 = .ok (.bipush 32, 2) := by decide +kernel
theorem dr_58_135 : decode cr_58 135 = .ok (.invokevirtual 177, 3) := by decide +kernel
theorem dr_58_138 : decode cr_58 138 = .ok (.aload_n 0, 1) := by decide +kernel
theorem dr_58_139 : decode cr_58 139 = .ok (.dup, 1) := by decide +kernel
theorem dr_58_140 : decode cr_58 140 = .ok (.getfield 133, 3) := by decide +kernel
theorem dr_58_143 : decode cr_58 143 = .ok (.iconst 1, 1) := by decide +kernel
theorem dr_58_144 : decode cr_58 144 = .ok (.iadd, 1) := by decide +kernel
theorem dr_58_145 : decode cr_58 145 = .ok (.putfield 133, 3) := by decide +kernel
theorem dr_58_148 : decode cr_58 148 = .ok (.goto (7), 3) := by decide +kernel
theorem dr_58_151 : decode cr_58 151 = .ok (.aload_n 0, 1) := by decide +kernel
theorem dr_58_152 : decode cr_58 152 = .ok (.invokevirtual 139, 3) := by decide +kernel
theorem dr_58_155 : decode cr_58 155 = .ok (.return_, 1) := by decide +kernel
theorem dr_59_0 : decode cr_59 0 = .ok (.aload_n 0, 1) := by decide +kernel
theorem dr_59_1 : decode cr_59 1 = .ok (.bipush 91, 2) := by decide +kernel
theorem dr_59_3 : decode cr_59 3 = .ok (.invokevirtual 142, 3) := by decide +kernel
theorem dr_59_6 : decode cr_59 6 = .ok (.ifCond .eq (47), 3) := by decide +kernel
theorem dr_59_9 : decode cr_59 9 = .ok (.aload_n 0, 1) := by decide +kernel
theorem dr_59_10 : decode cr_59 10 = .ok (.bipush 34, 2) := by decide +kernel
theorem dr_59_12 : decode cr_59 12 = .ok (.iconst 0, 1) := by decide +kernel
theorem dr_59_13 : decode cr_59 13 = .ok (.invokevirtual 199, 3) := by decide +kernel
theorem dr_59_16 : decode cr_59 16 = .ok (.aload_n 0, 1) := by decide +kernel
theorem dr_59_17 : decode cr_59 17 = .ok (.bipush 37, 2) := by decide +kernel
theorem dr_59_19 : decode cr_59 19 = .ok (.iconst 0, 1) := by decide +kernel
theorem dr_59_20 : decode cr_59 20 = .ok (.invokevirtual 199, 3) := by decide +kernel
theorem dr_59_23 : decode cr_59 23 = .ok (.aload_n 0, 1) := by decide +kernel
theorem dr_59_24 : decode cr_59 24 = .ok (.bipush 19, 2) := by decide +kernel
theorem dr_59_26 : decode cr_59 26 = .ok (.bipush 93, 2) := by decide +kernel
theorem dr_59_28 : decode cr_59 28 = .ok (.invokevirtual 199, 3) := by decide +kernel
theorem dr_59_31 : decode cr_59 31 = .ok (.aload_n 0, 1) := by decide +kernel
theorem dr_59_32 : decode cr_59 32 = .ok (.bipush 18, 2) := by decide +kernel
theorem dr_59_34 : decode cr_59 34 = .ok (.bipush 93, 2) := by decide +kernel
theorem dr_59_36 : decode cr_59 36 = .ok (.invokevirtual 199, 3) := by decide +kernel
theorem dr_59_39 : decode cr_59 39 = .ok (.aload_n 0, 1) := by decide +kernel
theorem dr_59_40 : decode cr_59 40 = .ok (.bipush 22, 2) := by decide +kernel
theorem dr_59_42 : decode cr_59 42 = .ok (.iconst 0, 1) := by decide +kernel
theorem dr_59_43 : decode cr_59 43 = .ok (.invokevirtual 199, 3) := by decide +kernel
theorem dr_59_46 : decode cr_59 46 = .ok (.aload_n 0, 1) := by decide +kernel
theorem dr_59_47 : decode cr_59 47 = .ok (.invokevirtual 229, 3) := by decide +kernel
theorem dr_59_50 : decode cr_59 50 = .ok (.goto (78), 3) := by decide +kernel
theorem dr_59_53 : decode cr_59 53 = .ok (.aload_n 0, 1) := by decide +kernel
theorem dr_59_54 : decode cr_59 54 = .ok (.bipush 40, 2) := by decide +kernel
theorem dr_59_56 : decode cr_59 56 = .ok (.invokevirtual 142, 3) := by decide +kernel
theorem dr_59_59 : decode cr_59 59 = .ok (.ifCond .eq (69), 3) := by decide +kernel
theorem dr_59_62 : decode cr_59 62 = .ok (.aload_n 0, 1) := by decide +kernel
theorem dr_59_63 : decode cr_59 63 = .ok (.bipush 34, 2) := by decide +kernel
theorem dr_59_65 : decode cr_59 65 = .ok (.iconst 0, 1) := by decide +kernel
theorem dr_59_66 : decode cr_59 66 = .ok (.invokevirtual 199, 3) := by decide +kernel
theorem dr_59_69 : decode cr_59 69 = .ok (.aload_n 0, 1) := by decide +kernel
theorem dr_59_70 : decode cr_59 70 = .ok (.bipush 37, 2) := by decide +kernel
theorem dr_59_72 : decode cr_59 72 = .ok (.iconst 0, 1) := by decide +kernel
theorem dr_59_73 : decode cr_59 73 = .ok (.invokevirtual 199, 3) := by decide +kernel
theorem dr_59_76 : decode cr_59 76 = .ok (.aload_n 0, 1) := by decide +kernel
theorem dr_59_77 : decode cr_59 77 = .ok (.invokevirtual 229, 3) := by decide +kernel
theorem dr_59_80 : decode cr_59 80 = .ok (.aload_n 0, 1) := by decide +kernel
theorem dr_59_81 : decode cr_59 81 = .ok (.getfield 129, 3) := by decide +kernel
theorem dr_59_84 : decode cr_59 84 = .ok (.ifCond .ne (16), 3) := by decide +kernel
theorem dr_59_87 : decode cr_59 87 = .ok (.aload_n 0, 1) := by decide +kernel
theorem dr_59_88 : decode cr_59 88 = .ok (.bipush 41, 2) := by decide +kernel
theorem dr_59_90 : decode cr_59 90 = .ok (.invokevirtual 142, 3) := by decide +kernel
theorem dr_59_93 : decode cr_59 93 = .ok (.ifCond .eq (7), 3) := by decide +kernel
theorem dr_59_96 : decode cr_59 96 = .ok (.iconst 1, 1) := by decide +kernel
theorem dr_59_97 : decode cr_59 97 = .ok (.goto (4), 3) := by decide +kernel
theorem dr_59_100 : decode cr_59 100 = .ok (.iconst 0, 1) := by decide +kernel
theorem dr_59_101 : decode cr_59 101 = .ok (.istore_n 1, 1) := by decide +kernel
theorem dr_59_102 : decode cr_59 102 = .ok (.aload_n 0, 1) := by decide +kernel
theorem dr_59_103 : decode cr_59 103 = .ok (.bipush 35, 2) := by decide +kernel
theorem dr_59_105 : decode cr_59 105 = .ok (.iload_n 1, 1) := by decide +kernel
theorem dr_59_106 : decode cr_59 106 = .ok (.ifCond .eq (7), 3) := by decide +kernel
theorem dr_59_109 : decode cr_59 109 = .ok (.iconst 0, 1) := by decide +kernel
theorem dr_59_110 : decode cr_59 110 = .ok (.goto (4), 3) := by decide +kernel
theorem dr_59_113 : decode cr_59 113 = .ok (.iconst 1, 1) := by decide +kernel
theorem dr_59_114 : decode cr_59 114 = .ok (.invokevirtual 199, 3) := by decide +kernel
theorem dr_59_117 : decode cr_59 117 = .ok (.iload_n 1, 1) := by decide +kernel
theorem dr_59_118 : decode cr_59 118 = .ok (.ifCond .ne (10), 3) := by decide +kernel
theorem dr_59_121 : decode cr_59 121 = .ok (.aload_n 0, 1) := by decide +kernel
theorem dr_59_122 : decode cr_59 122 = .ok (.bipush 22, 2) := by decide +kernel
theorem dr_59_124 : decode cr_59 124 = .ok (.iconst 0, 1) := by decide +kernel
theorem dr_59_125 : decode cr_59 125 = .ok (.invokevirtual 199, 3) := by decide +kernel
theorem dr_59_128 : decode cr_59 128 = .ok (.return_, 1) := by decide +kernel
theorem dr_60_0 : decode cr_60 0 = .ok (.iload_n 1, 1) := by decide +kernel
theorem dr_60_1 : decode cr_60 1 = .ok (.ifCond .le (39), 3) := by decide +kernel
theorem dr_60_4 : decode cr_60 4 = .ok (.aload_n 0, 1) := by decide +kernel
theorem dr_60_5 : decode cr_60 5 = .ok (.bipush 44, 2) := by decide +kernel
theorem dr_60_7 : decode cr_60 7 = .ok (.invokevirtual 142, 3) := by decide +kernel
theorem dr_60_10 : decode cr_60 10 = .ok (.ifCond .eq (30), 3) := by decide +kernel
theorem dr_60_13 : decode cr_60 13 = .ok (.aload_n 0, 1) := by decide +kernel
theorem dr_60_14 : decode cr_60 14 = .ok (.dup, 1) := by decide +kernel
theorem dr_60_15 : decode cr_60 15 = .ok (.getfield 133, 3) := by decide +kernel
theorem dr_60_18 : decode cr_60 18 = .ok (.iconst 1, 1) := by decide +kernel
theorem dr_60_19 : decode cr_60 19 = .ok (.iadd, 1) := by decide +kernel
theorem dr_60_20 : decode cr_60 20 = .ok (.putfield 133, 3) := by decide +kernel
theorem dr_60_23 : decode cr_60 23 = .ok (.aload_n 0, 1) := by decide +kernel
theorem dr_60_24 : decode cr_60 24 = .ok (.bipush 35, 2) := by decide +kernel
theorem dr_60_26 : decode cr_60 26 = .ok (.iload_n 1, 1) := by decide +kernel
theorem dr_60_27 : decode cr_60 27 = .ok (.iconst 1, 1) := by decide +kernel
theorem dr_60_28 : decode cr_60 28 = .ok (.iadd, 1) := by decide +kernel
theorem dr_60_29 : decode cr_60 29 = .ok (.invokevirtual 199, 3) := by decide +kernel
theorem dr_60_32 : decode cr_60 32 = .ok (.aload_n 0, 1) := by decide +kernel
theorem dr_60_33 : decode cr_60 33 = .ok (.bipush 22, 2) := by decide +kernel
theorem dr_60_35 : decode cr_60 35 = .ok (.iconst 0, 1) := by decide +kernel
theorem dr_60_36 : decode cr_60 36 = .ok (.invokevirtual 199, 3) := by decide +kernel
theorem dr_60_39 : decode cr_60 39 = .ok (.return_, 1) := by decide +kernel
theorem dr_60_40 : decode cr_60 40 = .ok (.aload_n 0, 1) := by decide +kernel
theorem dr_60_41 : decode cr_60 41 = .ok (.bipush 41, 2) := by decide +kernel
theorem dr_60_43 : decode cr_60 43 = .ok (.iconst 1, 1) := by decide +kernel
theorem dr_60_44 : decode cr_60 44 = .ok (.invokevirtual 216, 3) := by decide +kernel
theorem dr_60_47 : decode cr_60 47 = .ok (.aload_n 0, 1) := by decide +kernel
theorem dr_60_48 : decode cr_60 48 = .ok (.bipush 40, 2) := by decide +kernel
theorem dr_60_50 : decode cr_60 50 = .ok (.invokevirtual 177, 3) := by decide +kernel
theorem dr_60_53 : decode cr_60 53 = .ok (.aload_n 0, 1) := by decide +kernel
theorem dr_60_54 : decode cr_60 54 = .ok (.iload_n 1, 1) := by decide +kernel
theorem dr_60_55 : decode cr_60 55 = .ok (.invokevirtual 257, 3) := by decide +kernel
theorem dr_60_58 : decode cr_60 58 = .ok (.aload_n 0, 1) := by decide +kernel
theorem dr_60_59 : decode cr_60 59 = .ok (.bipush 41, 2) := by decide +kernel
theorem dr_60_61 : decode cr_60 61 = .ok (.invokevirtual 177, 3) := by decide +kernel
theorem dr_60_64 : decode cr_60 64 = .ok (.return_, 1) := by decide +kernel
theorem dr_61_0 : decode cr_61 0 = .ok (.aload_n 0, 1) := by decide +kernel
theorem dr_61_1 : decode cr_61 1 = .ok (.iconst 0, 1) := by decide +kernel
theorem dr_61_2 : decode cr_61 2 = .ok (.invokevirtual 142, 3) := by decide +kernel
theorem dr_61_5 : decode cr_61 5 = .ok (.ifCond .eq (4), 3) := by decide +kernel
theorem dr_61_8 : decode cr_61 8 = .ok (.return_, 1) := by decide +kernel
theorem dr_61_9 : decode cr_61 9 = .ok (.aload_n 0, 1) := by decide +kernel
theorem dr_61_10 : decode cr_61 10 = .ok (.iconst 1, 1) := by decide +kernel
theorem dr_61_11 : decode cr_61 11 = .ok (.iconst 0, 1) := by decide +kernel
theorem dr_61_12 : decode cr_61 12 = .ok (.invokevirtual 199, 3) := by decide +kernel
theorem dr_61_15 : decode cr_61 15 = .ok (.aload_n 0, 1) := by decide +kernel
theorem dr_61_16 : decode cr_61 16 = .ok (.iconst 4, 1) := by decide +kernel
theorem dr_61_17 : decode cr_61 17 = .ok (.invokevirtual 142, 3) := by decide +kernel
theorem dr_61_20 : decode cr_61 20 = .ok (.ifCond .ne (14), 3) := by decide +kernel
theorem dr_61_23 : decode cr_61 23 = .ok (.aload_n 0, 1) := by decide +kernel
theorem dr_61_24 : decode cr_61 24 = .ok (.aload_n 0, 1) := by decide +kernel
theorem dr_61_25 : decode cr_61 25 = .ok (.getfield 133, 3) := by decide +kernel
theorem dr_61_28 : decode cr_61 28 = .ok (.invokevirtual 158, 3) := by decide +kernel
theorem dr_61_31 : decode cr_61 31 = .ok (.ifCond .eq (12), 3) := by decide +kernel
theorem dr_61_34 : decode cr_61 34 = .ok (.aload_n 0, 1) := by decide +kernel
theorem dr_61_35 : decode cr_61 35 = .ok (.iconst 2, 1) := by decide +kernel
theorem dr_61_36 : decode cr_61 36 = .ok (.iconst 1, 1) := by decide +kernel
theorem dr_61_37 : decode cr_61 37 = .ok (.invokevirtual 199, 3) := by decide +kernel
theorem dr_61_40 : decode cr_61 40 = .ok (.goto (7), 3) := by decide +kernel
theorem dr_61_43 : decode cr_61 43 = .ok (.aload_n 0, 1) := by decide +kernel
theorem dr_61_44 : decode cr_61 44 = .ok (.invokevirtual 139, 3) := by decide +kernel
theorem dr_61_47 : decode cr_61 47 = .ok (.return_, 1) := by decide +kernel
theorem dr_62_0 : decode cr_62 0 = .ok (.iconst 0, 1) := by decide +kernel
theorem dr_62_1 : decode cr_62 1 = .ok (.istore_n 2, 1) := by decide +kernel
theorem dr_62_2 : decode cr_62 2 = .ok (.iload_n 2, 1) := by decide +kernel
theorem dr_62_3 : decode cr_62 3 = .ok (.iload_n 1, 1) := by decide +kernel
theorem dr_62_4 : decode cr_62 4 = .ok (.if_icmp .ge (15), 3) := by decide +kernel
theorem dr_62_7 : decode cr_62 7 = .ok (.aload_n 0, 1) := by decide +kernel
theorem dr_62_8 : decode cr_62 8 = .ok (.bipush 42, 2) := by decide +kernel
theorem dr_62_10 : decode cr_62 10 = .ok (.invokevirtual 167, 3) := by decide +kernel
theorem dr_62_13 : decode cr_62 13 = .ok (.iinc 2 1, 3) := by decide +kernel
theorem dr_62_16 : decode cr_62 16 = .ok (.goto (-14), 3) := by decide +kernel
theorem dr_62_19 : decode cr_62 19 = .ok (.return_, 1) := by decide +kernel
theorem dr_63_0 : decode cr_63 0 = .ok (.iload_n 1, 1) := by decide +kernel
theorem dr_63_1 : decode cr_63 1 = .ok (.tableswitch (159) (1) (13) #[67, 74, 82, 159, 90, 98, 106, 113, 121, 128, 136, 144, 152], 67) := by decide +kernel
theorem dr_63_68 : decode cr_63 68 = .ok (.aload_n 0, 1) := by decide +kernel
theorem dr_63_69 : decode cr_63 69 = .ok (.invokevirtual 260, 3) := by decide +kernel
theorem dr_63_72 : decode cr_63 72 = .ok (.goto (92), 3) := by decide +kernel
theorem dr_63_75 : decode cr_63 75 = .ok (.aload_n 0, 1) := by decide +kernel
theorem dr_63_76 : decode cr_63 76 = .ok (.iload_n 2, 1) := by decide +kernel
theorem dr_63_77 : decode cr_63 77 = .ok (.invokevirtual 263, 3) := by decide +kernel
theorem dr_63_80 : decode cr_63 80 = .ok (.goto (84), 3) := by decide +kernel
theorem dr_63_83 : decode cr_63 83 = .ok (.aload_n 0, 1) := by decide +kernel
theorem dr_63_84 : decode cr_63 84 = .ok (.iload_n 2, 1) := by decide +kernel
theorem dr_63_85 : decode cr_63 85 = .ok (.invokevirtual 266, 3) := by decide +kernel
theorem dr_63_88 : decode cr_63 88 = .ok (.goto (76), 3) := by decide +kernel
theorem dr_63_91 : decode cr_63 91 = .ok (.aload_n 0, 1) := by decide +kernel
theorem dr_63_92 : decode cr_63 92 = .ok (.iload_n 2, 1) := by decide +kernel
theorem dr_63_93 : decode cr_63 93 = .ok (.invokevirtual 269, 3) := by decide +kernel
theorem dr_63_96 : decode cr_63 96 = .ok (.goto (68), 3) := by decide +kernel
theorem dr_63_99 : decode cr_63 99 = .ok (.aload_n 0, 1) := by decide +kernel
theorem dr_63_100 : decode cr_63 100 = .ok (.iload_n 2, 1) := by decide +kernel
theorem dr_63_101 : decode cr_63 101 = .ok (.invokevirtual 272, 3) := by decide +kernel
theorem dr_63_104 : decode cr_63 104 = .ok (.goto (60), 3) := by decide +kernel
theorem dr_63_107 : decode cr_63 107 = .ok (.aload_n 0, 1) := by decide +kernel
theorem dr_63_108 : decode cr_63 108 = .ok (.invokevirtual 275, 3) := by decide +kernel
theorem dr_63_111 : decode cr_63 111 = .ok (.goto (53), 3) := by decide +kernel
theorem dr_63_114 : decode cr_63 114 = .ok (.aload_n 0, 1) := by decide +kernel
theorem dr_63_115 : decode cr_63 115 = .ok (.iload_n 2, 1) := by decide +kernel
theorem dr_63_116 : decode cr_63 116 = .ok (.invokevirtual 278, 3) := by decide +kernel
theorem dr_63_119 : decode cr_63 119 = .ok (.goto (45), 3) := by decide +kernel
theorem dr_63_122 : decode cr_63 122 = .ok (.aload_n 0, 1) := by decide +kernel
theorem dr_63_123 : decode cr_63 123 = .ok (.invokevirtual 281, 3) := by decide +kernel
theorem dr_63_126 : decode cr_63 126 = .ok (.goto (38), 3) := by decide +kernel
theorem dr_63_129 : decode cr_63 129 = .ok (.aload_n 0, 1) := by decide +kernel
theorem dr_63_130 : decode cr_63 130 = .ok (.iload_n 2, 1) := by decide +kernel
theorem dr_63_131 : decode cr_63 131 = .ok (.invokevirtual 284, 3) := by decide +kernel
theorem dr_63_134 : decode cr_63 134 = .ok (.goto (30), 3) := by decide +kernel
theorem dr_63_137 : decode cr_63 137 = .ok (.aload_n 0, 1) := by decide +kernel
theorem dr_63_138 : decode cr_63 138 = .ok (.iload_n 2, 1) := by decide +kernel
theorem dr_63_139 : decode cr_63 139 = .ok (.putfield 180, 3) := by decide +kernel
theorem dr_63_142 : decode cr_63 142 = .ok (.goto (22), 3) := by decide +kernel
theorem dr_63_145 : decode cr_63 145 = .ok (.aload_n 0, 1) := by decide +kernel
theorem dr_63_146 : decode cr_63 146 = .ok (.iload_n 2, 1) := by decide +kernel
theorem dr_63_147 : decode cr_63 147 = .ok (.putfield 183, 3) := by decide +kernel
theorem dr_63_150 : decode cr_63 150 = .ok (.goto (14), 3) := by decide +kernel
theorem dr_63_153 : decode cr_63 153 = .ok (.aload_n 0, 1) := by decide +kernel
theorem dr_63_154 : decode cr_63 154 = .ok (.invokevirtual 287, 3) := by decide +kernel
theorem dr_63_157 : decode cr_63 157 = .ok (.goto (7), 3) := by decide +kernel
theorem dr_63_160 : decode cr_63 160 = .ok (.aload_n 0, 1) := by decide +kernel
theorem dr_63_161 : decode cr_63 161 = .ok (.invokevirtual 290, 3) := by decide +kernel
theorem dr_63_164 : decode cr_63 164 = .ok (.return_, 1) := by decide +kernel
theorem dr_64_0 : decode cr_64 0 = .ok (.iload_n 1, 1) := by decide +kernel
theorem dr_64_1 : decode cr_64 1 = .ok (.tableswitch (85) (15) (20) #[39, 47, 54, 61, 70, 78], 39) := by decide +kernel
theorem dr_64_40 : decode cr_64 40 = .ok (.aload_n 0, 1) := by decide +kernel
theorem dr_64_41 : decode cr_64 41 = .ok (.iload_n 2, 1) := by decide +kernel
theorem dr_64_42 : decode cr_64 42 = .ok (.invokevirtual 293, 3) := by decide +kernel
theorem dr_64_45 : decode cr_64 45 = .ok (.goto (51), 3) := by decide +kernel
theorem dr_64_48 : decode cr_64 48 = .ok (.aload_n 0, 1) := by decide +kernel
theorem dr_64_49 : decode cr_64 49 = .ok (.invokevirtual 296, 3) := by decide +kernel
theorem dr_64_52 : decode cr_64 52 = .ok (.goto (44), 3) := by decide +kernel
theorem dr_64_55 : decode cr_64 55 = .ok (.aload_n 0, 1) := by decide +kernel
theorem dr_64_56 : decode cr_64 56 = .ok (.invokevirtual 299, 3) := by decide +kernel
theorem dr_64_59 : decode cr_64 59 = .ok (.goto (37), 3) := by decide +kernel
theorem dr_64_62 : decode cr_64 62 = .ok (.aload_n 0, 1) := by decide +kernel
theorem dr_64_63 : decode cr_64 63 = .ok (.iload_n 2, 1) := by decide +kernel
theorem dr_64_64 : decode cr_64 64 = .ok (.iconst 1, 1) := by decide +kernel
theorem dr_64_65 : decode cr_64 65 = .ok (.invokevirtual 216, 3) := by decide +kernel
theorem dr_64_68 : decode cr_64 68 = .ok (.goto (28), 3) := by decide +kernel
theorem dr_64_71 : decode cr_64 71 = .ok (.aload_n 0, 1) := by decide +kernel
theorem dr_64_72 : decode cr_64 72 = .ok (.iload_n 2, 1) := by decide +kernel
theorem dr_64_73 : decode cr_64 73 = .ok (.invokevirtual 177, 3) := by decide +kernel
theorem dr_64_76 : decode cr_64 76 = .ok (.goto (20), 3) := by decide +kernel
theorem dr_64_79 : decode cr_64 79 = .ok (.aload_n 0, 1) := by decide +kernel
theorem dr_64_80 : decode cr_64 80 = .ok (.invokevirtual 302, 3) := by decide +kernel
theorem dr_64_83 : decode cr_64 83 = .ok (.goto (13), 3) := by decide +kernel
theorem dr_64_86 : decode cr_64 86 = .ok (.aload_n 0, 1) := by decide +kernel
theorem dr_64_87 : decode cr_64 87 = .ok (.dup, 1) := by decide +kernel
theorem dr_64_88 : decode cr_64 88 = .ok (.getfield 136, 3) := by decide +kernel
theorem dr_64_91 : decode cr_64 91 = .ok (.iconst 1, 1) := by decide +kernel
theorem dr_64_92 : decode cr_64 92 = .ok (.isub, 1) := by decide +kernel
theorem dr_64_93 : decode cr_64 93 = .ok (.putfield 136, 3) := by decide +kernel
theorem dr_64_96 : decode cr_64 96 = .ok (.return_, 1) := by decide +kernel
theorem dr_65_0 : decode cr_65 0 = .ok (.iload_n 1, 1) := by decide +kernel
theorem dr_65_1 : decode cr_65 1 = .ok (.tableswitch (256) (22) (39) #[87, 104, 111, 128, 143, 160, 175, 182, 190, 197, 204, 212, 219, 226, 234, 256, 256, 247], 87) := by decide +kernel
theorem dr_65_88 : decode cr_65 88 = .ok (.aload_n 0, 1) := by decide +kernel
theorem dr_65_89 : decode cr_65 89 = .ok (.bipush 23, 2) := by decide +kernel
theorem dr_65_91 : decode cr_65 91 = .ok (.iconst 0, 1) := by decide +kernel
theorem dr_65_92 : decode cr_65 92 = .ok (.invokevirtual 199, 3) := by decide +kernel
theorem dr_65_95 : decode cr_65 95 = .ok (.aload_n 0, 1) := by decide +kernel
theorem dr_65_96 : decode cr_65 96 = .ok (.bipush 24, 2) := by decide +kernel
theorem dr_65_98 : decode cr_65 98 = .ok (.iconst 0, 1) := by decide +kernel
theorem dr_65_99 : decode cr_65 99 = .ok (.invokevirtual 199, 3) := by decide +kernel
theorem dr_65_102 : decode cr_65 102 = .ok (.goto (170), 3) := by decide +kernel
theorem dr_65_105 : decode cr_65 105 = .ok (.aload_n 0, 1) := by decide +kernel
theorem dr_65_106 : decode cr_65 106 = .ok (.invokevirtual 305, 3) := by decide +kernel
theorem dr_65_109 : decode cr_65 109 = .ok (.goto (163), 3) := by decide +kernel
theorem dr_65_112 : decode cr_65 112 = .ok (.aload_n 0, 1) := by decide +kernel
theorem dr_65_113 : decode cr_65 113 = .ok (.bipush 25, 2) := by decide +kernel
theorem dr_65_115 : decode cr_65 115 = .ok (.iconst 0, 1) := by decide +kernel
theorem dr_65_116 : decode cr_65 116 = .ok (.invokevirtual 199, 3) := by decide +kernel
theorem dr_65_119 : decode cr_65 119 = .ok (.aload_n 0, 1) := by decide +kernel
theorem dr_65_120 : decode cr_65 120 = .ok (.bipush 26, 2) := by decide +kernel
theorem dr_65_122 : decode cr_65 122 = .ok (.iconst 0, 1) := by decide +kernel
theorem dr_65_123 : decode cr_65 123 = .ok (.invokevirtual 199, 3) := by decide +kernel
theorem dr_65_126 : decode cr_65 126 = .ok (.goto (146), 3) := by decide +kernel
theorem dr_65_129 : decode cr_65 129 = .ok (.aload_n 0, 1) := by decide +kernel
theorem dr_65_130 : decode cr_65 130 = .ok (.bipush 43, 2) := by decide +kernel
theorem dr_65_132 : decode cr_65 132 = .ok (.bipush 45, 2) := by decide +kernel
theorem dr_65_134 : decode cr_65 134 = .ok (.bipush 26, 2) := by decide +kernel
theorem dr_65_136 : decode cr_65 136 = .ok (.bipush 25, 2) := by decide +kernel
theorem dr_65_138 : decode cr_65 138 = .ok (.invokevirtual 308, 3) := by decide +kernel
theorem dr_65_141 : decode cr_65 141 = .ok (.goto (131), 3) := by decide +kernel
theorem dr_65_144 : decode cr_65 144 = .ok (.aload_n 0, 1) := by decide +kernel
theorem dr_65_145 : decode cr_65 145 = .ok (.bipush 27, 2) := by decide +kernel
theorem dr_65_147 : decode cr_65 147 = .ok (.iconst 0, 1) := by decide +kernel
theorem dr_65_148 : decode cr_65 148 = .ok (.invokevirtual 199, 3) := by decide +kernel
theorem dr_65_151 : decode cr_65 151 = .ok (.aload_n 0, 1) := by decide +kernel
theorem dr_65_152 : decode cr_65 152 = .ok (.bipush 28, 2) := by decide +kernel
theorem dr_65_154 : decode cr_65 154 = .ok (.iconst 0, 1) := by decide +kernel
theorem dr_65_155 : decode cr_65 155 = .ok (.invokevirtual 199, 3) := by decide +kernel
theorem dr_65_158 : decode cr_65 158 = .ok (.goto (114), 3) := by decide +kernel
theorem dr_65_161 : decode cr_65 161 = .ok (.aload_n 0, 1) := by decide +kernel
theorem dr_65_162 : decode cr_65 162 = .ok (.bipush 42, 2) := by decide +kernel
theorem dr_65_164 : decode cr_65 164 = .ok (.bipush 47, 2) := by decide +kernel
theorem dr_65_166 : decode cr_65 166 = .ok (.bipush 28, 2) := by decide +kernel
theorem dr_65_168 : decode cr_65 168 = .ok (.bipush 27, 2) := by decide +kernel
theorem dr_65_170 : decode cr_65 170 = .ok (.invokevirtual 308, 3) := by decide +kernel
theorem dr_65_173 : decode cr_65 173 = .ok (.goto (99), 3) := by decide +kernel
theorem dr_65_176 : decode cr_65 176 = .ok (.aload_n 0, 1) := by decide +kernel
theorem dr_65_177 : decode cr_65 177 = .ok (.invokevirtual 312, 3) := by decide +kernel
theorem dr_65_180 : decode cr_65 180 = .ok (.goto (92), 3) := by decide +kernel
theorem dr_65_183 : decode cr_65 183 = .ok (.aload_n 0, 1) := by decide +kernel
theorem dr_65_184 : decode cr_65 184 = .ok (.iload_n 2, 1) := by decide +kernel
theorem dr_65_185 : decode cr_65 185 = .ok (.invokevirtual 315, 3) := by decide +kernel
theorem dr_65_188 : decode cr_65 188 = .ok (.goto (84), 3) := by decide +kernel
theorem dr_65_191 : decode cr_65 191 = .ok (.aload_n 0, 1) := by decide +kernel
theorem dr_65_192 : decode cr_65 192 = .ok (.invokevirtual 318, 3) := by decide +kernel
theorem dr_65_195 : decode cr_65 195 = .ok (.goto (77), 3) := by decide +kernel
theorem dr_65_198 : decode cr_65 198 = .ok (.aload_n 0, 1) := by decide +kernel
theorem dr_65_199 : decode cr_65 199 = .ok (.invokevirtual 321, 3) := by decide +kernel
theorem dr_65_202 : decode cr_65 202 = .ok (.goto (70), 3) := by decide +kernel
theorem dr_65_205 : decode cr_65 205 = .ok (.aload_n 0, 1) := by decide +kernel
theorem dr_65_206 : decode cr_65 206 = .ok (.iload_n 2, 1) := by decide +kernel
theorem dr_65_207 : decode cr_65 207 = .ok (.invokevirtual 324, 3) := by decide +kernel
theorem dr_65_210 : decode cr_65 210 = .ok (.goto (62), 3) := by decide +kernel
theorem dr_65_213 : decode cr_65 213 = .ok (.aload_n 0, 1) := by decide +kernel
theorem dr_65_214 : decode cr_65 214 = .ok (.invokevirtual 327, 3) := by decide +kernel
theorem dr_65_217 : decode cr_65 217 = .ok (.goto (55), 3) := by decide +kernel
theorem dr_65_220 : decode cr_65 220 = .ok (.aload_n 0, 1) := by decide +kernel
theorem dr_65_221 : decode cr_65 221 = .ok (.invokevirtual 330, 3) := by decide +kernel
theorem dr_65_224 : decode cr_65 224 = .ok (.goto (48), 3) := by decide +kernel
theorem dr_65_227 : decode cr_65 227 = .ok (.aload_n 0, 1) := by decide +kernel
theorem dr_65_228 : decode cr_65 228 = .ok (.iload_n 2, 1) := by decide +kernel
theorem dr_65_229 : decode cr_65 229 = .ok (.invokevirtual 333, 3) := by decide +kernel
theorem dr_65_232 : decode cr_65 232 = .ok (.goto (40), 3) := by decide +kernel
theorem dr_65_235 : decode cr_65 235 = .ok (.aload_n 0, 1) := by decide +kernel
theorem dr_65_236 : decode cr_65 236 = .ok (.iload_n 2, 1) := by decide +kernel
theorem dr_65_237 : decode cr_65 237 = .ok (.invokevirtual 177, 3) := by decide +kernel
theorem dr_65_240 : decode cr_65 240 = .ok (.aload_n 0, 1) := by decide +kernel
theorem dr_65_241 : decode cr_65 241 = .ok (.iconst 0, 1) := by decide +kernel
theorem dr_65_242 : decode cr_65 242 = .ok (.putfield 244, 3) := by decide +kernel
theorem dr_65_245 : decode cr_65 245 = .ok (.goto (27), 3) := by decide +kernel
theorem dr_65_248 : decode cr_65 248 = .ok (.aload_n 0, 1) := by decide +kernel
theorem dr_65_249 : decode cr_65 249 = .ok (.iload_n 2, 1) := by decide +kernel
theorem dr_65_250 : decode cr_65 250 = .ok (.iconst 0, 1) := by decide +kernel
theorem dr_65_251 : decode cr_65 251 = .ok (.invokevirtual 216, 3) := by decide +kernel
theorem dr_65_254 : decode cr_65 254 = .ok (.goto (18), 3) := by decide +kernel
theorem dr_65_257 : decode cr_65 257 = .ok (.aload_n 0, 1) := by decide +kernel
theorem dr_65_258 : decode cr_65 258 = .ok (.iload_n 1, 1) := by decide +kernel
theorem dr_65_259 : decode cr_65 259 = .ok (.bipush 37, 2) := by decide +kernel
theorem dr_65_261 : decode cr_65 261 = .ok (.if_icmp .ne (7), 3) := by decide +kernel
theorem dr_65_264 : decode cr_65 264 = .ok (.iconst 1, 1) := by decide +kernel
theorem dr_65_265 : decode cr_65 265 = .ok (.goto (4), 3) := by decide +kernel
theorem dr_65_268 : decode cr_65 268 = .ok (.iconst 0, 1) := by decide +kernel
theorem dr_65_269 : decode cr_65 269 = .ok (.putfield 244, 3) := by decide +kernel
theorem dr_65_272 : decode cr_65 272 = .ok (.return_, 1) := by decide +kernel
theorem dr_66_0 : decode cr_66 0 = .ok (.aload_n 0, 1) := by decide +kernel
theorem dr_66_1 : decode cr_66 1 = .ok (.iconst 0, 1) := by decide +kernel
theorem dr_66_2 : decode cr_66 2 = .ok (.putfield 336, 3) := by decide +kernel
theorem dr_66_5 : decode cr_66 5 = .ok (.aload_n 0, 1) := by decide +kernel
theorem dr_66_6 : decode cr_66 6 = .ok (.iconst (-1), 1) := by decide +kernel
theorem dr_66_7 : decode cr_66 7 = .ok (.putfield 28, 3) := by decide +kernel
theorem dr_66_10 : decode cr_66 10 = .ok (.aload_n 0, 1) := by decide +kernel
theorem dr_66_11 : decode cr_66 11 = .ok (.iconst 0, 1) := by decide +kernel
theorem dr_66_12 : decode cr_66 12 = .ok (.putfield 148, 3) := by decide +kernel
theorem dr_66_15 : decode cr_66 15 = .ok (.aload_n 0, 1) := by decide +kernel
theorem dr_66_16 : decode cr_66 16 = .ok (.iconst 0, 1) := by decide +kernel
theorem dr_66_17 : decode cr_66 17 = .ok (.putfield 186, 3) := by decide +kernel
theorem dr_66_20 : decode cr_66 20 = .ok (.aload_n 0, 1) := by decide +kernel
theorem dr_66_21 : decode cr_66 21 = .ok (.iconst 0, 1) := by decide +kernel
theorem dr_66_22 : decode cr_66 22 = .ok (.putfield 171, 3) := by decide +kernel
theorem dr_66_25 : decode cr_66 25 = .ok (.aload_n 0, 1) := by decide +kernel
theorem dr_66_26 : decode cr_66 26 = .ok (.iconst 1, 1) := by decide +kernel
theorem dr_66_27 : decode cr_66 27 = .ok (.putfield 161, 3) := by decide +kernel
theorem dr_66_30 : decode cr_66 30 = .ok (.aload_n 0, 1) := by decide +kernel
theorem dr_66_31 : decode cr_66 31 = .ok (.iconst 1, 1) := by decide +kernel
theorem dr_66_32 : decode cr_66 32 = .ok (.putfield 145, 3) := by decide +kernel
theorem dr_66_35 : decode cr_66 35 = .ok (.aload_n 0, 1) := by decide +kernel
theorem dr_66_36 : decode cr_66 36 = .ok (.getfield 38, 3) := by decide +kernel
theorem dr_66_39 : decode cr_66 39 = .ok (.iconst 0, 1) := by decide +kernel
theorem dr_66_40 : decode cr_66 40 = .ok (.iconst 0, 1) := by decide +kernel
theorem dr_66_41 : decode cr_66 41 = .ok (.iastore, 1) := by decide +kernel
theorem dr_66_42 : decode cr_66 42 = .ok (.aload_n 0, 1) := by decide +kernel
theorem dr_66_43 : decode cr_66 43 = .ok (.iconst 0, 1) := by decide +kernel
theorem dr_66_44 : decode cr_66 44 = .ok (.putfield 136, 3) := by decide +kernel
theorem dr_66_47 : decode cr_66 47 = .ok (.aload_n 0, 1) := by decide +kernel
theorem dr_66_48 : decode cr_66 48 = .ok (.iconst 0, 1) := by decide +kernel
theorem dr_66_49 : decode cr_66 49 = .ok (.putfield 133, 3) := by decide +kernel
theorem dr_66_52 : decode cr_66 52 = .ok (.aload_n 0, 1) := by decide +kernel
theorem dr_66_53 : decode cr_66 53 = .ok (.iconst 0, 1) := by decide +kernel
theorem dr_66_54 : decode cr_66 54 = .ok (.putfield 126, 3) := by decide +kernel
theorem dr_66_57 : decode cr_66 57 = .ok (.aload_n 0, 1) := by decide +kernel
theorem dr_66_58 : decode cr_66 58 = .ok (.iconst 0, 1) := by decide +kernel
theorem dr_66_59 : decode cr_66 59 = .ok (.putfield 254, 3) := by decide +kernel
theorem dr_66_62 : decode cr_66 62 = .ok (.aload_n 0, 1) := by decide +kernel
theorem dr_66_63 : decode cr_66 63 = .ok (.iconst 0, 1) := by decide +kernel
theorem dr_66_64 : decode cr_66 64 = .ok (.putfield 129, 3) := by decide +kernel
theorem dr_66_67 : decode cr_66 67 = .ok (.return_, 1) := by decide +kernel
theorem dr_67_0 : decode cr_67 0 = .ok (.aload_n 0, 1) := by decide +kernel
theorem dr_67_1 : decode cr_67 1 = .ok (.iconst 0, 1) := by decide +kernel
theorem dr_67_2 : decode cr_67 2 = .ok (.putfield 75, 3) := by decide +kernel
theorem dr_67_5 : decode cr_67 5 = .ok (.aload_n 0, 1) := by decide +kernel
theorem dr_67_6 : decode cr_67 6 = .ok (.invokevirtual 339, 3) := by decide +kernel
theorem dr_67_9 : decode cr_67 9 = .ok (.aload_n 0, 1) := by decide +kernel
theorem dr_67_10 : decode cr_67 10 = .ok (.invokevirtual 342, 3) := by decide +kernel
theorem dr_67_13 : decode cr_67 13 = .ok (.aload_n 0, 1) := by decide +kernel
theorem dr_67_14 : decode cr_67 14 = .ok (.iconst 1, 1) := by decide +kernel
theorem dr_67_15 : decode cr_67 15 = .ok (.iconst 0, 1) := by decide +kernel
theorem dr_67_16 : decode cr_67 16 = .ok (.invokevirtual 199, 3) := by decide +kernel
theorem dr_67_19 : decode cr_67 19 = .ok (.aload_n 0, 1) := by decide +kernel
theorem dr_67_20 : decode cr_67 20 = .ok (.getfield 126, 3) := by decide +kernel
theorem dr_67_23 : decode cr_67 23 = .ok (.ifCond .le (79), 3) := by decide +kernel
theorem dr_67_26 : decode cr_67 26 = .ok (.aload_n 0, 1) := by decide +kernel
theorem dr_67_27 : decode cr_67 27 = .ok (.getfield 129, 3) := by decide +kernel
theorem dr_67_30 : decode cr_67 30 = .ok (.ifCond .ne (72), 3) := by decide +kernel
theorem dr_67_33 : decode cr_67 33 = .ok (.aload_n 0, 1) := by decide +kernel
theorem dr_67_34 : decode cr_67 34 = .ok (.dup, 1) := by decide +kernel
theorem dr_67_35 : decode cr_67 35 = .ok (.getfield 126, 3) := by decide +kernel
theorem dr_67_38 : decode cr_67 38 = .ok (.iconst 1, 1) := by decide +kernel
theorem dr_67_39 : decode cr_67 39 = .ok (.isub, 1) := by decide +kernel
theorem dr_67_40 : decode cr_67 40 = .ok (.putfield 126, 3) := by decide +kernel
theorem dr_67_43 : decode cr_67 43 = .ok (.aload_n 0, 1) := by decide +kernel
theorem dr_67_44 : decode cr_67 44 = .ok (.getfield 32, 3) := by decide +kernel
theorem dr_67_47 : decode cr_67 47 = .ok (.aload_n 0, 1) := by decide +kernel
theorem dr_67_48 : decode cr_67 48 = .ok (.getfield 126, 3) := by decide +kernel
theorem dr_67_51 : decode cr_67 51 = .ok (.iaload, 1) := by decide +kernel
theorem dr_67_52 : decode cr_67 52 = .ok (.istore_n 1, 1) := by decide +kernel
theorem dr_67_53 : decode cr_67 53 = .ok (.aload_n 0, 1) := by decide +kernel
theorem dr_67_54 : decode cr_67 54 = .ok (.getfield 35, 3) := by decide +kernel
theorem dr_67_57 : decode cr_67 57 = .ok (.aload_n 0, 1) := by decide +kernel
theorem dr_67_58 : decode cr_67 58 = .ok (.getfield 126, 3) := by decide +kernel
theorem dr_67_61 : decode cr_67 61 = .ok (.iaload, 1) := by decide +kernel
theorem dr_67_62 : decode cr_67 62 = .ok (.istore_n 2, 1) := by decide +kernel
theorem dr_67_63 : decode cr_67 63 = .ok (.iload_n 1, 1) := by decide +kernel
theorem dr_67_64 : decode cr_67 64 = .ok (.bipush 15, 2) := by decide +kernel
theorem dr_67_66 : decode cr_67 66 = .ok (.if_icmp .ge (12), 3) := by decide +kernel
theorem dr_67_69 : decode cr_67 69 = .ok (.aload_n 0, 1) := by decide +kernel
theorem dr_67_70 : decode cr_67 70 = .ok (.iload_n 1, 1) := by decide +kernel
theorem dr_67_71 : decode cr_67 71 = .ok (.iload_n 2, 1) := by decide +kernel
theorem dr_67_72 : decode cr_67 72 = .ok (.invokevirtual 345, 3) := by decide +kernel
theorem dr_67_75 : decode cr_67 75 = .ok (.goto (24), 3) := by decide +kernel
theorem dr_67_78 : decode cr_67 78 = .ok (.iload_n 1, 1) := by decide +kernel
theorem dr_67_79 : decode cr_67 79 = .ok (.bipush 22, 2) := by decide +kernel
theorem dr_67_81 : decode cr_67 81 = .ok (.if_icmp .ge (12), 3) := by decide +kernel
theorem dr_67_84 : decode cr_67 84 = .ok (.aload_n 0, 1) := by decide +kernel
theorem dr_67_85 : decode cr_67 85 = .ok (.iload_n 1, 1) := by decide +kernel
theorem dr_67_86 : decode cr_67 86 = .ok (.iload_n 2, 1) := by decide +kernel
theorem dr_67_87 : decode cr_67 87 = .ok (.invokevirtual 348, 3) := by decide +kernel
theorem dr_67_90 : decode cr_67 90 = .ok (.goto (9), 3) := by decide +kernel
theorem dr_67_93 : decode cr_67 93 = .ok (.aload_n 0, 1) := by decide +kernel
theorem dr_67_94 : decode cr_67 94 = .ok (.iload_n 1, 1) := by decide +kernel
theorem dr_67_95 : decode cr_67 95 = .ok (.iload_n 2, 1) := by decide +kernel
theorem dr_67_96 : decode cr_67 96 = .ok (.invokevirtual 351, 3) := by decide +kernel
theorem dr_67_99 : decode cr_67 99 = .ok (.goto (-80), 3) := by decide +kernel
theorem dr_67_102 : decode cr_67 102 = .ok (.aload_n 0, 1) := by decide +kernel
theorem dr_67_103 : decode cr_67 103 = .ok (.getfield 129, 3) := by decide +kernel
theorem dr_67_106 : decode cr_67 106 = .ok (.ifCond .eq (19), 3) := by decide +kernel
theorem dr_67_109 : decode cr_67 109 = .ok (.aload_n 0, 1) := by decide +kernel
theorem dr_67_110 : decode cr_67 110 = .ok (.iconst 0, 1) := by decide +kernel
theorem dr_67_111 : decode cr_67 111 = .ok (.putfield 148, 3) := by decide +kernel
theorem dr_67_114 : decode cr_67 114 = .ok (.aload_n 0, 1) := by decide +kernel
theorem dr_67_115 : decode cr_67 115 = .ok (.iconst 0, 1) := by decide +kernel
theorem dr_67_116 : decode cr_67 116 = .ok (.putfield 171, 3) := by decide +kernel
theorem dr_67_119 : decode cr_67 119 = .ok (.aload_n 0, 1) := by decide +kernel
theorem dr_67_120 : decode cr_67 120 = .ok (.iconst 1, 1) := by decide +kernel
theorem dr_67_121 : decode cr_67 121 = .ok (.invokevirtual 354, 3) := by decide +kernel
theorem dr_67_124 : decode cr_67 124 = .ok (.ireturn, 1) := by decide +kernel
theorem dr_67_125 : decode cr_67 125 = .ok (.aload_n 0, 1) := by decide +kernel
theorem dr_67_126 : decode cr_67 126 = .ok (.iconst 1, 1) := by decide +kernel
theorem dr_67_127 : decode cr_67 127 = .ok (.putfield 336, 3) := by decide +kernel
theorem dr_67_130 : decode cr_67 130 = .ok (.aload_n 0, 1) := by decide +kernel
theorem dr_67_131 : decode cr_67 131 = .ok (.getfield 101, 3) := by decide +kernel
theorem dr_67_134 : decode cr_67 134 = .ok (.ireturn, 1) := by decide +kernel
theorem dr_68_0 : decode cr_68 0 = .ok (.aload_n 0, 1) := by decide +kernel
theorem dr_68_1 : decode cr_68 1 = .ok (.iconst 0, 1) := by decide +kernel
theorem dr_68_2 : decode cr_68 2 = .ok (.putfield 75, 3) := by decide +kernel
theorem dr_68_5 : decode cr_68 5 = .ok (.aload_n 0, 1) := by decide +kernel
theorem dr_68_6 : decode cr_68 6 = .ok (.getfield 28, 3) := by decide +kernel
theorem dr_68_9 : decode cr_68 9 = .ok (.ireturn, 1) := by decide +kernel
theorem dr_69_0 : decode cr_69 0 = .ok (.aload_n 0, 1) := by decide +kernel
theorem dr_69_1 : decode cr_69 1 = .ok (.getfield 336, 3) := by decide +kernel
theorem dr_69_4 : decode cr_69 4 = .ok (.ifCond .eq (19), 3) := by decide +kernel
theorem dr_69_7 : decode cr_69 7 = .ok (.iload_n 1, 1) := by decide +kernel
theorem dr_69_8 : decode cr_69 8 = .ok (.ifCond .lt (15), 3) := by decide +kernel
theorem dr_69_11 : decode cr_69 11 = .ok (.iload_n 1, 1) := by decide +kernel
theorem dr_69_12 : decode cr_69 12 = .ok (.aload_n 0, 1) := by decide +kernel
theorem dr_69_13 : decode cr_69 13 = .ok (.getfield 101, 3) := by decide +kernel
theorem dr_69_16 : decode cr_69 16 = .ok (.if_icmp .ge (7), 3) := by decide +kernel
theorem dr_69_19 : decode cr_69 19 = .ok (.iconst 1, 1) := by decide +kernel
theorem dr_69_20 : decode cr_69 20 = .ok (.goto (4), 3) := by decide +kernel
theorem dr_69_23 : decode cr_69 23 = .ok (.iconst 0, 1) := by decide +kernel
theorem dr_69_24 : decode cr_69 24 = .ok (.ireturn, 1) := by decide +kernel
theorem dr_70_0 : decode cr_70 0 = .ok (.aload_n 0, 1) := by decide +kernel
theorem dr_70_1 : decode cr_70 1 = .ok (.iconst 0, 1) := by decide +kernel
theorem dr_70_2 : decode cr_70 2 = .ok (.putfield 75, 3) := by decide +kernel
theorem dr_70_5 : decode cr_70 5 = .ok (.aload_n 0, 1) := by decide +kernel
theorem dr_70_6 : decode cr_70 6 = .ok (.iload_n 1, 1) := by decide +kernel
theorem dr_70_7 : decode cr_70 7 = .ok (.invokevirtual 357, 3) := by decide +kernel
theorem dr_70_10 : decode cr_70 10 = .ok (.ifCond .eq (12), 3) := by decide +kernel
theorem dr_70_13 : decode cr_70 13 = .ok (.aload_n 0, 1) := by decide +kernel
theorem dr_70_14 : decode cr_70 14 = .ok (.getfield 22, 3) := by decide +kernel
theorem dr_70_17 : decode cr_70 17 = .ok (.iload_n 1, 1) := by decide +kernel
theorem dr_70_18 : decode cr_70 18 = .ok (.iaload, 1) := by decide +kernel
theorem dr_70_19 : decode cr_70 19 = .ok (.goto (4), 3) := by decide +kernel
theorem dr_70_22 : decode cr_70 22 = .ok (.iconst (-1), 1) := by decide +kernel
theorem dr_70_23 : decode cr_70 23 = .ok (.ireturn, 1) := by decide +kernel
theorem dr_71_0 : decode cr_71 0 = .ok (.aload_n 0, 1) := by decide +kernel
theorem dr_71_1 : decode cr_71 1 = .ok (.iconst 0, 1) := by decide +kernel
theorem dr_71_2 : decode cr_71 2 = .ok (.putfield 75, 3) := by decide +kernel
theorem dr_71_5 : decode cr_71 5 = .ok (.aload_n 0, 1) := by decide +kernel
theorem dr_71_6 : decode cr_71 6 = .ok (.iload_n 1, 1) := by decide +kernel
theorem dr_71_7 : decode cr_71 7 = .ok (.invokevirtual 357, 3) := by decide +kernel
theorem dr_71_10 : decode cr_71 10 = .ok (.ifCond .eq (12), 3) := by decide +kernel
theorem dr_71_13 : decode cr_71 13 = .ok (.aload_n 0, 1) := by decide +kernel
theorem dr_71_14 : decode cr_71 14 = .ok (.getfield 25, 3) := by decide +kernel
theorem dr_71_17 : decode cr_71 17 = .ok (.iload_n 1, 1) := by decide +kernel
theorem dr_71_18 : decode cr_71 18 = .ok (.iaload, 1) := by decide +kernel
theorem dr_71_19 : decode cr_71 19 = .ok (.goto (4), 3) := by decide +kernel
theorem dr_71_22 : decode cr_71 22 = .ok (.iconst (-1), 1) := by decide +kernel
theorem dr_71_23 : decode cr_71 23 = .ok (.ireturn, 1) := by decide +kernel
theorem dr_72_0 : decode cr_72 0 = .ok (.aload_n 0, 1) := by decide +kernel
theorem dr_72_1 : decode cr_72 1 = .ok (.iconst 0, 1) := by decide +kernel
theorem dr_72_2 : decode cr_72 2 = .ok (.putfield 75, 3) := by decide +kernel
theorem dr_72_5 : decode cr_72 5 = .ok (.aload_n 0, 1) := by decide +kernel
theorem dr_72_6 : decode cr_72 6 = .ok (.getfield 148, 3) := by decide +kernel
theorem dr_72_9 : decode cr_72 9 = .ok (.ireturn, 1) := by decide +kernel
theorem dr_73_0 : decode cr_73 0 = .ok (.aload_n 0, 1) := by decide +kernel
theorem dr_73_1 : decode cr_73 1 = .ok (.iload_n 1, 1) := by decide +kernel
theorem dr_73_2 : decode cr_73 2 = .ok (.ifCond .lt (20), 3) := by decide +kernel
theorem dr_73_5 : decode cr_73 5 = .ok (.iload_n 1, 1) := by decide +kernel
theorem dr_73_6 : decode cr_73 6 = .ok (.aload_n 0, 1) := by decide +kernel
theorem dr_73_7 : decode cr_73 7 = .ok (.getfield 148, 3) := by decide +kernel
theorem dr_73_10 : decode cr_73 10 = .ok (.if_icmp .ge (12), 3) := by decide +kernel
theorem dr_73_13 : decode cr_73 13 = .ok (.iload_n 2, 1) := by decide +kernel
theorem dr_73_14 : decode cr_73 14 = .ok (.ifCond .lt (8), 3) := by decide +kernel
theorem dr_73_17 : decode cr_73 17 = .ok (.iload_n 2, 1) := by decide +kernel
theorem dr_73_18 : decode cr_73 18 = .ok (.iconst 3, 1) := by decide +kernel
theorem dr_73_19 : decode cr_73 19 = .ok (.if_icmp .le (7), 3) := by decide +kernel
theorem dr_73_22 : decode cr_73 22 = .ok (.iconst 1, 1) := by decide +kernel
theorem dr_73_23 : decode cr_73 23 = .ok (.goto (4), 3) := by decide +kernel
theorem dr_73_26 : decode cr_73 26 = .ok (.iconst 0, 1) := by decide +kernel
theorem dr_73_27 : decode cr_73 27 = .ok (.putfield 75, 3) := by decide +kernel
theorem dr_73_30 : decode cr_73 30 = .ok (.aload_n 0, 1) := by decide +kernel
theorem dr_73_31 : decode cr_73 31 = .ok (.getfield 75, 3) := by decide +kernel
theorem dr_73_34 : decode cr_73 34 = .ok (.ifCond .le (5), 3) := by decide +kernel
theorem dr_73_37 : decode cr_73 37 = .ok (.iconst 0, 1) := by decide +kernel
theorem dr_73_38 : decode cr_73 38 = .ok (.ireturn, 1) := by decide +kernel
theorem dr_73_39 : decode cr_73 39 = .ok (.iload_n 2, 1) := by decide +kernel
theorem dr_73_40 : decode cr_73 40 = .ok (.ifCond .ne (12), 3) := by decide +kernel
theorem dr_73_43 : decode cr_73 43 = .ok (.aload_n 0, 1) := by decide +kernel
theorem dr_73_44 : decode cr_73 44 = .ok (.getfield 41, 3) := by decide +kernel
theorem dr_73_47 : decode cr_73 47 = .ok (.iload_n 1, 1) := by decide +kernel
theorem dr_73_48 : decode cr_73 48 = .ok (.iaload, 1) := by decide +kernel
theorem dr_73_49 : decode cr_73 49 = .ok (.goto (37), 3) := by decide +kernel
theorem dr_73_52 : decode cr_73 52 = .ok (.iload_n 2, 1) := by decide +kernel
theorem dr_73_53 : decode cr_73 53 = .ok (.iconst 1, 1) := by decide +kernel
theorem dr_73_54 : decode cr_73 54 = .ok (.if_icmp .ne (12), 3) := by decide +kernel
theorem dr_73_57 : decode cr_73 57 = .ok (.aload_n 0, 1) := by decide +kernel
theorem dr_73_58 : decode cr_73 58 = .ok (.getfield 47, 3) := by decide +kernel
theorem dr_73_61 : decode cr_73 61 = .ok (.iload_n 1, 1) := by decide +kernel
theorem dr_73_62 : decode cr_73 62 = .ok (.iaload, 1) := by decide +kernel
theorem dr_73_63 : decode cr_73 63 = .ok (.goto (23), 3) := by decide +kernel
theorem dr_73_66 : decode cr_73 66 = .ok (.iload_n 2, 1) := by decide +kernel
theorem dr_73_67 : decode cr_73 67 = .ok (.iconst 2, 1) := by decide +kernel
theorem dr_73_68 : decode cr_73 68 = .ok (.if_icmp .ne (12), 3) := by decide +kernel
theorem dr_73_71 : decode cr_73 71 = .ok (.aload_n 0, 1) := by decide +kernel
theorem dr_73_72 : decode cr_73 72 = .ok (.getfield 56, 3) := by decide +kernel
theorem dr_73_75 : decode cr_73 75 = .ok (.iload_n 1, 1) := by decide +kernel
theorem dr_73_76 : decode cr_73 76 = .ok (.iaload, 1) := by decide +kernel
theorem dr_73_77 : decode cr_73 77 = .ok (.goto (9), 3) := by decide +kernel
theorem dr_73_80 : decode cr_73 80 = .ok (.aload_n 0, 1) := by decide +kernel
theorem dr_73_81 : decode cr_73 81 = .ok (.getfield 50, 3) := by decide +kernel
theorem dr_73_84 : decode cr_73 84 = .ok (.iload_n 1, 1) := by decide +kernel
theorem dr_73_85 : decode cr_73 85 = .ok (.iaload, 1) := by decide +kernel
theorem dr_73_86 : decode cr_73 86 = .ok (.ireturn, 1) := by decide +kernel
theorem dr_74_0 : decode cr_74 0 = .ok (.aload_n 0, 1) := by decide +kernel
theorem dr_74_1 : decode cr_74 1 = .ok (.iload_n 1, 1) := by decide +kernel
theorem dr_74_2 : decode cr_74 2 = .ok (.ifCond .lt (25), 3) := by decide +kernel
theorem dr_74_5 : decode cr_74 5 = .ok (.iload_n 1, 1) := by decide +kernel
theorem dr_74_6 : decode cr_74 6 = .ok (.aload_n 0, 1) := by decide +kernel
theorem dr_74_7 : decode cr_74 7 = .ok (.getfield 148, 3) := by decide +kernel
theorem dr_74_10 : decode cr_74 10 = .ok (.if_icmp .ge (17), 3) := by decide +kernel
theorem dr_74_13 : decode cr_74 13 = .ok (.iload_n 2, 1) := by decide +kernel
theorem dr_74_14 : decode cr_74 14 = .ok (.ifCond .lt (13), 3) := by decide +kernel
theorem dr_74_17 : decode cr_74 17 = .ok (.iload_n 2, 1) := by decide +kernel
theorem dr_74_18 : decode cr_74 18 = .ok (.aload_n 0, 1) := by decide +kernel
theorem dr_74_19 : decode cr_74 19 = .ok (.getfield 56, 3) := by decide +kernel
theorem dr_74_22 : decode cr_74 22 = .ok (.iload_n 1, 1) := by decide +kernel
theorem dr_74_23 : decode cr_74 23 = .ok (.iaload, 1) := by decide +kernel
theorem dr_74_24 : decode cr_74 24 = .ok (.if_icmp .lt (7), 3) := by decide +kernel
theorem dr_74_27 : decode cr_74 27 = .ok (.iconst 1, 1) := by decide +kernel
theorem dr_74_28 : decode cr_74 28 = .ok (.goto (4), 3) := by decide +kernel
theorem dr_74_31 : decode cr_74 31 = .ok (.iconst 0, 1) := by decide +kernel
theorem dr_74_32 : decode cr_74 32 = .ok (.putfield 75, 3) := by decide +kernel
theorem dr_74_35 : decode cr_74 35 = .ok (.aload_n 0, 1) := by decide +kernel
theorem dr_74_36 : decode cr_74 36 = .ok (.getfield 75, 3) := by decide +kernel
theorem dr_74_39 : decode cr_74 39 = .ok (.ifCond .ne (19), 3) := by decide +kernel
theorem dr_74_42 : decode cr_74 42 = .ok (.aload_n 0, 1) := by decide +kernel
theorem dr_74_43 : decode cr_74 43 = .ok (.getfield 59, 3) := by decide +kernel
theorem dr_74_46 : decode cr_74 46 = .ok (.aload_n 0, 1) := by decide +kernel
theorem dr_74_47 : decode cr_74 47 = .ok (.getfield 53, 3) := by decide +kernel
theorem dr_74_50 : decode cr_74 50 = .ok (.iload_n 1, 1) := by decide +kernel
theorem dr_74_51 : decode cr_74 51 = .ok (.iaload, 1) := by decide +kernel
theorem dr_74_52 : decode cr_74 52 = .ok (.iload_n 2, 1) := by decide +kernel
theorem dr_74_53 : decode cr_74 53 = .ok (.iadd, 1) := by decide +kernel
theorem dr_74_54 : decode cr_74 54 = .ok (.iaload, 1) := by decide +kernel
theorem dr_74_55 : decode cr_74 55 = .ok (.goto (4), 3) := by decide +kernel
theorem dr_74_58 : decode cr_74 58 = .ok (.iconst 0, 1) := by decide +kernel
theorem dr_74_59 : decode cr_74 59 = .ok (.ireturn, 1) := by decide +kernel
theorem dr_75_0 : decode cr_75 0 = .ok (.aload_n 0, 1) := by decide +kernel
theorem dr_75_1 : decode cr_75 1 = .ok (.iconst 0, 1) := by decide +kernel
theorem dr_75_2 : decode cr_75 2 = .ok (.putfield 75, 3) := by decide +kernel
theorem dr_75_5 : decode cr_75 5 = .ok (.aload_n 0, 1) := by decide +kernel
theorem dr_75_6 : decode cr_75 6 = .ok (.getfield 171, 3) := by decide +kernel
theorem dr_75_9 : decode cr_75 9 = .ok (.ireturn, 1) := by decide +kernel
theorem dr_76_0 : decode cr_76 0 = .ok (.aload_n 0, 1) := by decide +kernel
theorem dr_76_1 : decode cr_76 1 = .ok (.iload_n 1, 1) := by decide +kernel
theorem dr_76_2 : decode cr_76 2 = .ok (.ifCond .lt (11), 3) := by decide +kernel
theorem dr_76_5 : decode cr_76 5 = .ok (.iload_n 1, 1) := by decide +kernel
theorem dr_76_6 : decode cr_76 6 = .ok (.aload_n 0, 1) := by decide +kernel
theorem dr_76_7 : decode cr_76 7 = .ok (.getfield 171, 3) := by decide +kernel
theorem dr_76_10 : decode cr_76 10 = .ok (.if_icmp .lt (7), 3) := by decide +kernel
theorem dr_76_13 : decode cr_76 13 = .ok (.iconst 1, 1) := by decide +kernel
theorem dr_76_14 : decode cr_76 14 = .ok (.goto (4), 3) := by decide +kernel
theorem dr_76_17 : decode cr_76 17 = .ok (.iconst 0, 1) := by decide +kernel
theorem dr_76_18 : decode cr_76 18 = .ok (.putfield 75, 3) := by decide +kernel
theorem dr_76_21 : decode cr_76 21 = .ok (.aload_n 0, 1) := by decide +kernel
theorem dr_76_22 : decode cr_76 22 = .ok (.getfield 75, 3) := by decide +kernel
theorem dr_76_25 : decode cr_76 25 = .ok (.ifCond .ne (12), 3) := by decide +kernel
theorem dr_76_28 : decode cr_76 28 = .ok (.aload_n 0, 1) := by decide +kernel
theorem dr_76_29 : decode cr_76 29 = .ok (.getfield 72, 3) := by decide +kernel
theorem dr_76_32 : decode cr_76 32 = .ok (.iload_n 1, 1) := by decide +kernel
theorem dr_76_33 : decode cr_76 33 = .ok (.iaload, 1) := by decide +kernel
theorem dr_76_34 : decode cr_76 34 = .ok (.goto (4), 3) := by decide +kernel
theorem dr_76_37 : decode cr_76 37 = .ok (.iconst 0, 1) := by decide +kernel
theorem dr_76_38 : decode cr_76 38 = .ok (.ireturn, 1) := by decide +kernel
