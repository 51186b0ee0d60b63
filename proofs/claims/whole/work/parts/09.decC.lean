theorem dc_0_0 : decode cc_0 0 = .ok (.iload_n 3, 1) := by decide +kernel
theorem dc_0_1 : decode cc_0 1 = .ok (.iconst 1, 1) := by decide +kernel
theorem dc_0_2 : decode cc_0 2 = .ok (.if_icmp .lt (21), 3) := by decide +kernel
theorem dc_0_5 : decode cc_0 5 = .ok (.iload_n 3, 1) := by decide +kernel
theorem dc_0_6 : decode cc_0 6 = .ok (.bipush 8, 2) := by decide +kernel
theorem dc_0_8 : decode cc_0 8 = .ok (.if_icmp .gt (15), 3) := by decide +kernel
theorem dc_0_11 : decode cc_0 11 = .ok (.aload_n 0, 1) := by decide +kernel
theorem dc_0_12 : decode cc_0 12 = .ok (.getfield 13, 3) := by decide +kernel
theorem dc_0_15 : decode cc_0 15 = .ok (.iload_n 3, 1) := by decide +kernel
theorem dc_0_16 : decode cc_0 16 = .ok (.iadd, 1) := by decide +kernel
theorem dc_0_17 : decode cc_0 17 = .ok (.sipush 160, 3) := by decide +kernel
theorem dc_0_20 : decode cc_0 20 = .ok (.if_icmp .le (5), 3) := by decide +kernel
theorem dc_0_23 : decode cc_0 23 = .ok (.iconst 0, 1) := by decide +kernel
theorem dc_0_24 : decode cc_0 24 = .ok (.ireturn, 1) := by decide +kernel
theorem dc_0_25 : decode cc_0 25 = .ok (.iconst 0, 1) := by decide +kernel
theorem dc_0_26 : decode cc_0 26 = .ok (.istore 4, 2) := by decide +kernel
theorem dc_0_28 : decode cc_0 28 = .ok (.iload 4, 2) := by decide +kernel
theorem dc_0_30 : decode cc_0 30 = .ok (.iload_n 3, 1) := by decide +kernel
theorem dc_0_31 : decode cc_0 31 = .ok (.if_icmp .ge (23), 3) := by decide +kernel
theorem dc_0_34 : decode cc_0 34 = .ok (.lload_n 1, 1) := by decide +kernel
theorem dc_0_35 : decode cc_0 35 = .ok (.iload 4, 2) := by decide +kernel
theorem dc_0_37 : decode cc_0 37 = .ok (.invokestatic 55, 3) := by decide +kernel
theorem dc_0_40 : decode cc_0 40 = .ok (.invokestatic 59, 3) := by decide +kernel
theorem dc_0_43 : decode cc_0 43 = .ok (.ifCond .ne (5), 3) := by decide +kernel
theorem dc_0_46 : decode cc_0 46 = .ok (.iconst 0, 1) := by decide +kernel
theorem dc_0_47 : decode cc_0 47 = .ok (.ireturn, 1) := by decide +kernel
theorem dc_0_48 : decode cc_0 48 = .ok (.iinc 4 1, 3) := by decide +kernel
theorem dc_0_51 : decode cc_0 51 = .ok (.goto (-23), 3) := by decide +kernel
theorem dc_0_54 : decode cc_0 54 = .ok (.iconst 0, 1) := by decide +kernel
theorem dc_0_55 : decode cc_0 55 = .ok (.istore 4, 2) := by decide +kernel
theorem dc_0_57 : decode cc_0 57 = .ok (.iload 4, 2) := by decide +kernel
theorem dc_0_59 : decode cc_0 59 = .ok (.iload_n 3, 1) := by decide +kernel
theorem dc_0_60 : decode cc_0 60 = .ok (.if_icmp .ge (34), 3) := by decide +kernel
theorem dc_0_63 : decode cc_0 63 = .ok (.aload_n 0, 1) := by decide +kernel
theorem dc_0_64 : decode cc_0 64 = .ok (.getfield 9, 3) := by decide +kernel
theorem dc_0_67 : decode cc_0 67 = .ok (.aload_n 0, 1) := by decide +kernel
theorem dc_0_68 : decode cc_0 68 = .ok (.getfield 13, 3) := by decide +kernel
theorem dc_0_71 : decode cc_0 71 = .ok (.lload_n 1, 1) := by decide +kernel
theorem dc_0_72 : decode cc_0 72 = .ok (.iload 4, 2) := by decide +kernel
theorem dc_0_74 : decode cc_0 74 = .ok (.invokestatic 55, 3) := by decide +kernel
theorem dc_0_77 : decode cc_0 77 = .ok (.castore, 1) := by decide +kernel
theorem dc_0_78 : decode cc_0 78 = .ok (.aload_n 0, 1) := by decide +kernel
theorem dc_0_79 : decode cc_0 79 = .ok (.dup, 1) := by decide +kernel
theorem dc_0_80 : decode cc_0 80 = .ok (.getfield 13, 3) := by decide +kernel
theorem dc_0_83 : decode cc_0 83 = .ok (.iconst 1, 1) := by decide +kernel
theorem dc_0_84 : decode cc_0 84 = .ok (.iadd, 1) := by decide +kernel
theorem dc_0_85 : decode cc_0 85 = .ok (.putfield 13, 3) := by decide +kernel
theorem dc_0_88 : decode cc_0 88 = .ok (.iinc 4 1, 3) := by decide +kernel
theorem dc_0_91 : decode cc_0 91 = .ok (.goto (-34), 3) := by decide +kernel
theorem dc_0_94 : decode cc_0 94 = .ok (.iconst 1, 1) := by decide +kernel
theorem dc_0_95 : decode cc_0 95 = .ok (.ireturn, 1) := by decide +kernel
theorem dc_1_0 : decode cc_1 0 = .ok (.iload_n 1, 1) := by decide +kernel
theorem dc_1_1 : decode cc_1 1 = .ok (.ifCond .lt (11), 3) := by decide +kernel
theorem dc_1_4 : decode cc_1 4 = .ok (.iload_n 1, 1) := by decide +kernel
theorem dc_1_5 : decode cc_1 5 = .ok (.aload_n 0, 1) := by decide +kernel
theorem dc_1_6 : decode cc_1 6 = .ok (.getfield 13, 3) := by decide +kernel
theorem dc_1_9 : decode cc_1 9 = .ok (.if_icmp .le (5), 3) := by decide +kernel
theorem dc_1_12 : decode cc_1 12 = .ok (.iconst 0, 1) := by decide +kernel
theorem dc_1_13 : decode cc_1 13 = .ok (.ireturn, 1) := by decide +kernel
theorem dc_1_14 : decode cc_1 14 = .ok (.aload_n 0, 1) := by decide +kernel
theorem dc_1_15 : decode cc_1 15 = .ok (.iload_n 1, 1) := by decide +kernel
theorem dc_1_16 : decode cc_1 16 = .ok (.putfield 13, 3) := by decide +kernel
theorem dc_1_19 : decode cc_1 19 = .ok (.iconst 1, 1) := by decide +kernel
theorem dc_1_20 : decode cc_1 20 = .ok (.ireturn, 1) := by decide +kernel
theorem dc_2_0 : decode cc_2 0 = .ok (.aload_n 0, 1) := by decide +kernel
theorem dc_2_1 : decode cc_2 1 = .ok (.getfield 26, 3) := by decide +kernel
theorem dc_2_4 : decode cc_2 4 = .ok (.aload_n 0, 1) := by decide +kernel
theorem dc_2_5 : decode cc_2 5 = .ok (.getfield 9, 3) := by decide +kernel
theorem dc_2_8 : decode cc_2 8 = .ok (.aload_n 0, 1) := by decide +kernel
theorem dc_2_9 : decode cc_2 9 = .ok (.getfield 13, 3) := by decide +kernel
theorem dc_2_12 : decode cc_2 12 = .ok (.invokevirtual 63, 3) := by decide +kernel
theorem dc_2_15 : decode cc_2 15 = .ok (.aload_n 0, 1) := by decide +kernel
theorem dc_2_16 : decode cc_2 16 = .ok (.aload_n 0, 1) := by decide +kernel
theorem dc_2_17 : decode cc_2 17 = .ok (.getfield 51, 3) := by decide +kernel
theorem dc_2_20 : decode cc_2 20 = .ok (.invokevirtual 67, 3) := by decide +kernel
theorem dc_2_23 : decode cc_2 23 = .ok (.putfield 20, 3) := by decide +kernel
theorem dc_2_26 : decode cc_2 26 = .ok (.aload_n 0, 1) := by decide +kernel
theorem dc_2_27 : decode cc_2 27 = .ok (.getfield 20, 3) := by decide +kernel
theorem dc_2_30 : decode cc_2 30 = .ok (.iconst (-1), 1) := by decide +kernel
theorem dc_2_31 : decode cc_2 31 = .ok (.if_icmp .eq (16), 3) := by decide +kernel
theorem dc_2_34 : decode cc_2 34 = .ok (.aload_n 0, 1) := by decide +kernel
theorem dc_2_35 : decode cc_2 35 = .ok (.iconst 0, 1) := by decide +kernel
theorem dc_2_36 : decode cc_2 36 = .ok (.putfield 17, 3) := by decide +kernel
theorem dc_2_39 : decode cc_2 39 = .ok (.new 71, 3) := by decide +kernel
theorem dc_2_42 : decode cc_2 42 = .ok (.dup, 1) := by decide +kernel
theorem dc_2_43 : decode cc_2 43 = .ok (.invokespecial 73, 3) := by decide +kernel
theorem dc_2_46 : decode cc_2 46 = .ok (.athrow, 1) := by decide +kernel
theorem dc_2_47 : decode cc_2 47 = .ok (.aload_n 0, 1) := by decide +kernel
theorem dc_2_48 : decode cc_2 48 = .ok (.aload_n 0, 1) := by decide +kernel
theorem dc_2_49 : decode cc_2 49 = .ok (.getfield 26, 3) := by decide +kernel
theorem dc_2_52 : decode cc_2 52 = .ok (.getfield 74, 3) := by decide +kernel
theorem dc_2_55 : decode cc_2 55 = .ok (.putfield 17, 3) := by decide +kernel
theorem dc_2_58 : decode cc_2 58 = .ok (.aload_n 0, 1) := by decide +kernel
theorem dc_2_59 : decode cc_2 59 = .ok (.getfield 17, 3) := by decide +kernel
theorem dc_2_62 : decode cc_2 62 = .ok (.ireturn, 1) := by decide +kernel
theorem dc_3_0 : decode cc_3 0 = .ok (.aload_n 0, 1) := by decide +kernel
theorem dc_3_1 : decode cc_3 1 = .ok (.getfield 20, 3) := by decide +kernel
theorem dc_3_4 : decode cc_3 4 = .ok (.ireturn, 1) := by decide +kernel
theorem dc_4_0 : decode cc_4 0 = .ok (.aload_n 0, 1) := by decide +kernel
theorem dc_4_1 : decode cc_4 1 = .ok (.iload_n 1, 1) := by decide +kernel
theorem dc_4_2 : decode cc_4 2 = .ok (.invokevirtual 77, 3) := by decide +kernel
theorem dc_4_5 : decode cc_4 5 = .ok (.ifCond .eq (15), 3) := by decide +kernel
theorem dc_4_8 : decode cc_4 8 = .ok (.aload_n 0, 1) := by decide +kernel
theorem dc_4_9 : decode cc_4 9 = .ok (.getfield 35, 3) := by decide +kernel
theorem dc_4_12 : decode cc_4 12 = .ok (.getfield 81, 3) := by decide +kernel
theorem dc_4_15 : decode cc_4 15 = .ok (.iload_n 1, 1) := by decide +kernel
theorem dc_4_16 : decode cc_4 16 = .ok (.iaload, 1) := by decide +kernel
theorem dc_4_17 : decode cc_4 17 = .ok (.goto (4), 3) := by decide +kernel
theorem dc_4_20 : decode cc_4 20 = .ok (.iconst (-1), 1) := by decide +kernel
theorem dc_4_21 : decode cc_4 21 = .ok (.ireturn, 1) := by decide +kernel
theorem dc_5_0 : decode cc_5 0 = .ok (.aload_n 0, 1) := by decide +kernel
theorem dc_5_1 : decode cc_5 1 = .ok (.iload_n 1, 1) := by decide +kernel
theorem dc_5_2 : decode cc_5 2 = .ok (.invokevirtual 77, 3) := by decide +kernel
theorem dc_5_5 : decode cc_5 5 = .ok (.ifCond .eq (15), 3) := by decide +kernel
theorem dc_5_8 : decode cc_5 8 = .ok (.aload_n 0, 1) := by decide +kernel
theorem dc_5_9 : decode cc_5 9 = .ok (.getfield 35, 3) := by decide +kernel
theorem dc_5_12 : decode cc_5 12 = .ok (.getfield 85, 3) := by decide +kernel
theorem dc_5_15 : decode cc_5 15 = .ok (.iload_n 1, 1) := by decide +kernel
theorem dc_5_16 : decode cc_5 16 = .ok (.iaload, 1) := by decide +kernel
theorem dc_5_17 : decode cc_5 17 = .ok (.goto (4), 3) := by decide +kernel
theorem dc_5_20 : decode cc_5 20 = .ok (.iconst (-1), 1) := by decide +kernel
theorem dc_5_21 : decode cc_5 21 = .ok (.ireturn, 1) := by decide +kernel
theorem dc_6_0 : decode cc_6 0 = .ok (.aload_n 0, 1) := by decide +kernel
theorem dc_6_1 : decode cc_6 1 = .ok (.getfield 35, 3) := by decide +kernel
theorem dc_6_4 : decode cc_6 4 = .ok (.getfield 88, 3) := by decide +kernel
theorem dc_6_7 : decode cc_6 7 = .ok (.ireturn, 1) := by decide +kernel
theorem dc_7_0 : decode cc_7 0 = .ok (.iload_n 1, 1) := by decide +kernel
theorem dc_7_1 : decode cc_7 1 = .ok (.aload_n 0, 1) := by decide +kernel
theorem dc_7_2 : decode cc_7 2 = .ok (.getfield 35, 3) := by decide +kernel
theorem dc_7_5 : decode cc_7 5 = .ok (.getfield 88, 3) := by decide +kernel
theorem dc_7_8 : decode cc_7 8 = .ok (.invokestatic 89, 3) := by decide +kernel
theorem dc_7_11 : decode cc_7 11 = .ok (.iload_n 2, 1) := by decide +kernel
theorem dc_7_12 : decode cc_7 12 = .ok (.tableswitch (82) (0) (3) #[32, 42, 52, 72], 32) := by decide +kernel
theorem dc_7_44 : decode cc_7 44 = .ok (.aload_n 0, 1) := by decide +kernel
theorem dc_7_45 : decode cc_7 45 = .ok (.getfield 35, 3) := by decide +kernel
theorem dc_7_48 : decode cc_7 48 = .ok (.getfield 93, 3) := by decide +kernel
theorem dc_7_51 : decode cc_7 51 = .ok (.iload_n 1, 1) := by decide +kernel
theorem dc_7_52 : decode cc_7 52 = .ok (.iaload, 1) := by decide +kernel
theorem dc_7_53 : decode cc_7 53 = .ok (.ireturn, 1) := by decide +kernel
theorem dc_7_54 : decode cc_7 54 = .ok (.aload_n 0, 1) := by decide +kernel
theorem dc_7_55 : decode cc_7 55 = .ok (.getfield 35, 3) := by decide +kernel
theorem dc_7_58 : decode cc_7 58 = .ok (.getfield 96, 3) := by decide +kernel
theorem dc_7_61 : decode cc_7 61 = .ok (.iload_n 1, 1) := by decide +kernel
theorem dc_7_62 : decode cc_7 62 = .ok (.iaload, 1) := by decide +kernel
theorem dc_7_63 : decode cc_7 63 = .ok (.ireturn, 1) := by decide +kernel
theorem dc_7_64 : decode cc_7 64 = .ok (.aload_n 0, 1) := by decide +kernel
theorem dc_7_65 : decode cc_7 65 = .ok (.getfield 35, 3) := by decide +kernel
theorem dc_7_68 : decode cc_7 68 = .ok (.getfield 99, 3) := by decide +kernel
theorem dc_7_71 : decode cc_7 71 = .ok (.iload_n 1, 1) := by decide +kernel
theorem dc_7_72 : decode cc_7 72 = .ok (.iaload, 1) := by decide +kernel
theorem dc_7_73 : decode cc_7 73 = .ok (.aload_n 0, 1) := by decide +kernel
theorem dc_7_74 : decode cc_7 74 = .ok (.getfield 35, 3) := by decide +kernel
theorem dc_7_77 : decode cc_7 77 = .ok (.getfield 102, 3) := by decide +kernel
theorem dc_7_80 : decode cc_7 80 = .ok (.iload_n 1, 1) := by decide +kernel
theorem dc_7_81 : decode cc_7 81 = .ok (.iaload, 1) := by decide +kernel
theorem dc_7_82 : decode cc_7 82 = .ok (.isub, 1) := by decide +kernel
theorem dc_7_83 : decode cc_7 83 = .ok (.ireturn, 1) := by decide +kernel
theorem dc_7_84 : decode cc_7 84 = .ok (.aload_n 0, 1) := by decide +kernel
theorem dc_7_85 : decode cc_7 85 = .ok (.getfield 35, 3) := by decide +kernel
theorem dc_7_88 : decode cc_7 88 = .ok (.getfield 105, 3) := by decide +kernel
theorem dc_7_91 : decode cc_7 91 = .ok (.iload_n 1, 1) := by decide +kernel
theorem dc_7_92 : decode cc_7 92 = .ok (.iaload, 1) := by decide +kernel
theorem dc_7_93 : decode cc_7 93 = .ok (.ireturn, 1) := by decide +kernel
theorem dc_7_94 : decode cc_7 94 = .ok (.new 108, 3) := by decide +kernel
theorem dc_7_97 : decode cc_7 97 = .ok (.dup, 1) := by decide +kernel
theorem dc_7_98 : decode cc_7 98 = .ok (.invokespecial 110, 3) := by decide +kernel
theorem dc_7_101 : decode cc_7 101 = .ok (.athrow, 1) := by decide +kernel
theorem dc_8_0 : decode cc_8 0 = .ok (.iload_n 1, 1) := by decide +kernel
theorem dc_8_1 : decode cc_8 1 = .ok (.aload_n 0, 1) := by decide +kernel
theorem dc_8_2 : decode cc_8 2 = .ok (.getfield 35, 3) := by decide +kernel
theorem dc_8_5 : decode cc_8 5 = .ok (.getfield 88, 3) := by decide +kernel
theorem dc_8_8 : decode cc_8 8 = .ok (.invokestatic 89, 3) := by decide +kernel
theorem dc_8_11 : decode cc_8 11 = .ok (.iload_n 2, 1) := by decide +kernel
theorem dc_8_12 : decode cc_8 12 = .ok (.aload_n 0, 1) := by decide +kernel
theorem dc_8_13 : decode cc_8 13 = .ok (.getfield 35, 3) := by decide +kernel
theorem dc_8_16 : decode cc_8 16 = .ok (.getfield 99, 3) := by decide +kernel
theorem dc_8_19 : decode cc_8 19 = .ok (.iload_n 1, 1) := by decide +kernel
theorem dc_8_20 : decode cc_8 20 = .ok (.iaload, 1) := by decide +kernel
theorem dc_8_21 : decode cc_8 21 = .ok (.aload_n 0, 1) := by decide +kernel
theorem dc_8_22 : decode cc_8 22 = .ok (.getfield 35, 3) := by decide +kernel
theorem dc_8_25 : decode cc_8 25 = .ok (.getfield 102, 3) := by decide +kernel
theorem dc_8_28 : decode cc_8 28 = .ok (.iload_n 1, 1) := by decide +kernel
theorem dc_8_29 : decode cc_8 29 = .ok (.iaload, 1) := by decide +kernel
theorem dc_8_30 : decode cc_8 30 = .ok (.isub, 1) := by decide +kernel
theorem dc_8_31 : decode cc_8 31 = .ok (.invokestatic 89, 3) := by decide +kernel
theorem dc_8_34 : decode cc_8 34 = .ok (.aload_n 0, 1) := by decide +kernel
theorem dc_8_35 : decode cc_8 35 = .ok (.getfield 35, 3) := by decide +kernel
theorem dc_8_38 : decode cc_8 38 = .ok (.getfield 111, 3) := by decide +kernel
theorem dc_8_41 : decode cc_8 41 = .ok (.aload_n 0, 1) := by decide +kernel
theorem dc_8_42 : decode cc_8 42 = .ok (.getfield 35, 3) := by decide +kernel
theorem dc_8_45 : decode cc_8 45 = .ok (.getfield 102, 3) := by decide +kernel
theorem dc_8_48 : decode cc_8 48 = .ok (.iload_n 1, 1) := by decide +kernel
theorem dc_8_49 : decode cc_8 49 = .ok (.iaload, 1) := by decide +kernel
theorem dc_8_50 : decode cc_8 50 = .ok (.iload_n 2, 1) := by decide +kernel
theorem dc_8_51 : decode cc_8 51 = .ok (.iadd, 1) := by decide +kernel
theorem dc_8_52 : decode cc_8 52 = .ok (.invokevirtual 114, 3) := by decide +kernel
theorem dc_8_55 : decode cc_8 55 = .ok (.ireturn, 1) := by decide +kernel
theorem dc_9_0 : decode cc_9 0 = .ok (.aload_n 0, 1) := by decide +kernel
theorem dc_9_1 : decode cc_9 1 = .ok (.getfield 42, 3) := by decide +kernel
theorem dc_9_4 : decode cc_9 4 = .ok (.getfield 118, 3) := by decide +kernel
theorem dc_9_7 : decode cc_9 7 = .ok (.ireturn, 1) := by decide +kernel
theorem dc_10_0 : decode cc_10 0 = .ok (.iload_n 1, 1) := by decide +kernel
theorem dc_10_1 : decode cc_10 1 = .ok (.aload_n 0, 1) := by decide +kernel
theorem dc_10_2 : decode cc_10 2 = .ok (.getfield 42, 3) := by decide +kernel
theorem dc_10_5 : decode cc_10 5 = .ok (.getfield 118, 3) := by decide +kernel
theorem dc_10_8 : decode cc_10 8 = .ok (.invokestatic 89, 3) := by decide +kernel
theorem dc_10_11 : decode cc_10 11 = .ok (.aload_n 0, 1) := by decide +kernel
theorem dc_10_12 : decode cc_10 12 = .ok (.getfield 42, 3) := by decide +kernel
theorem dc_10_15 : decode cc_10 15 = .ok (.iload_n 1, 1) := by decide +kernel
theorem dc_10_16 : decode cc_10 16 = .ok (.invokevirtual 114, 3) := by decide +kernel
theorem dc_10_19 : decode cc_10 19 = .ok (.ireturn, 1) := by decide +kernel
theorem dc_11_0 : decode cc_11 0 = .ok (.iload_n 1, 1) := by decide +kernel
theorem dc_11_1 : decode cc_11 1 = .ok (.ifCond .lt (15), 3) := by decide +kernel
theorem dc_11_4 : decode cc_11 4 = .ok (.iload_n 1, 1) := by decide +kernel
theorem dc_11_5 : decode cc_11 5 = .ok (.aload_n 0, 1) := by decide +kernel
theorem dc_11_6 : decode cc_11 6 = .ok (.getfield 17, 3) := by decide +kernel
theorem dc_11_9 : decode cc_11 9 = .ok (.if_icmp .ge (7), 3) := by decide +kernel
theorem dc_11_12 : decode cc_11 12 = .ok (.iconst 1, 1) := by decide +kernel
theorem dc_11_13 : decode cc_11 13 = .ok (.goto (4), 3) := by decide +kernel
theorem dc_11_16 : decode cc_11 16 = .ok (.iconst 0, 1) := by decide +kernel
theorem dc_11_17 : decode cc_11 17 = .ok (.ireturn, 1) := by decide +kernel
theorem dc_12_0 : decode cc_12 0 = .ok (.lload_n 0, 1) := by decide +kernel
theorem dc_12_1 : decode cc_12 1 = .ok (.bipush 8, 2) := by decide +kernel
theorem dc_12_3 : decode cc_12 3 = .ok (.iload_n 2, 1) := by decide +kernel
theorem dc_12_4 : decode cc_12 4 = .ok (.imul, 1) := by decide +kernel
theorem dc_12_5 : decode cc_12 5 = .ok (.lushr, 1) := by decide +kernel
theorem dc_12_6 : decode cc_12 6 = .ok (.ldc2_w 119, 3) := by decide +kernel
theorem dc_12_9 : decode cc_12 9 = .ok (.land, 1) := by decide +kernel
theorem dc_12_10 : decode cc_12 10 = .ok (.l2i, 1) := by decide +kernel
theorem dc_12_11 : decode cc_12 11 = .ok (.i2c, 1) := by decide +kernel
theorem dc_12_12 : decode cc_12 12 = .ok (.ireturn, 1) := by decide +kernel
theorem dc_13_0 : decode cc_13 0 = .ok (.iload_n 0, 1) := by decide +kernel
theorem dc_13_1 : decode cc_13 1 = .ok (.bipush 10, 2) := by decide +kernel
theorem dc_13_3 : decode cc_13 3 = .ok (.if_icmp .eq (15), 3) := by decide +kernel
theorem dc_13_6 : decode cc_13 6 = .ok (.iload_n 0, 1) := by decide +kernel
theorem dc_13_7 : decode cc_13 7 = .ok (.bipush 32, 2) := by decide +kernel
theorem dc_13_9 : decode cc_13 9 = .ok (.if_icmp .lt (13), 3) := by decide +kernel
theorem dc_13_12 : decode cc_13 12 = .ok (.iload_n 0, 1) := by decide +kernel
theorem dc_13_13 : decode cc_13 13 = .ok (.bipush 126, 2) := by decide +kernel
theorem dc_13_15 : decode cc_13 15 = .ok (.if_icmp .gt (7), 3) := by decide +kernel
theorem dc_13_18 : decode cc_13 18 = .ok (.iconst 1, 1) := by decide +kernel
theorem dc_13_19 : decode cc_13 19 = .ok (.goto (4), 3) := by decide +kernel
theorem dc_13_22 : decode cc_13 22 = .ok (.iconst 0, 1) := by decide +kernel
theorem dc_13_23 : decode cc_13 23 = .ok (.ireturn, 1) := by decide +kernel
theorem dc_14_0 : decode cc_14 0 = .ok (.iload_n 0, 1) := by decide +kernel
theorem dc_14_1 : decode cc_14 1 = .ok (.ifCond .lt (8), 3) := by decide +kernel
theorem dc_14_4 : decode cc_14 4 = .ok (.iload_n 0, 1) := by decide +kernel
theorem dc_14_5 : decode cc_14 5 = .ok (.iload_n 1, 1) := by decide +kernel
theorem dc_14_6 : decode cc_14 6 = .ok (.if_icmp .lt (11), 3) := by decide +kernel
theorem dc_14_9 : decode cc_14 9 = .ok (.new 108, 3) := by decide +kernel
theorem dc_14_12 : decode cc_14 12 = .ok (.dup, 1) := by decide +kernel
theorem dc_14_13 : decode cc_14 13 = .ok (.invokespecial 110, 3) := by decide +kernel
theorem dc_14_16 : decode cc_14 16 = .ok (.athrow, 1) := by decide +kernel
theorem dc_14_17 : decode cc_14 17 = .ok (.return_, 1) := by decide +kernel
theorem dc_15_0 : decode cc_15 0 = .ok (.aload_n 0, 1) := by decide +kernel
theorem dc_15_1 : decode cc_15 1 = .ok (.iconst 0, 1) := by decide +kernel
theorem dc_15_2 : decode cc_15 2 = .ok (.putfield 15, 3) := by decide +kernel
theorem dc_15_5 : decode cc_15 5 = .ok (.return_, 1) := by decide +kernel
theorem dc_16_0 : decode cc_16 0 = .ok (.iload_n 1, 1) := by decide +kernel
theorem dc_16_1 : decode cc_16 1 = .ok (.ifCond .lt (20), 3) := by decide +kernel
theorem dc_16_4 : decode cc_16 4 = .ok (.iload_n 1, 1) := by decide +kernel
theorem dc_16_5 : decode cc_16 5 = .ok (.aload_n 0, 1) := by decide +kernel
theorem dc_16_6 : decode cc_16 6 = .ok (.getfield 15, 3) := by decide +kernel
theorem dc_16_9 : decode cc_16 9 = .ok (.if_icmp .ge (12), 3) := by decide +kernel
theorem dc_16_12 : decode cc_16 12 = .ok (.aload_n 0, 1) := by decide +kernel
theorem dc_16_13 : decode cc_16 13 = .ok (.getfield 9, 3) := by decide +kernel
theorem dc_16_16 : decode cc_16 16 = .ok (.iload_n 1, 1) := by decide +kernel
theorem dc_16_17 : decode cc_16 17 = .ok (.caload, 1) := by decide +kernel
theorem dc_16_18 : decode cc_16 18 = .ok (.goto (4), 3) := by decide +kernel
theorem dc_16_21 : decode cc_16 21 = .ok (.iconst 0, 1) := by decide +kernel
theorem dc_16_22 : decode cc_16 22 = .ok (.ireturn, 1) := by decide +kernel
theorem dc_17_0 : decode cc_17 0 = .ok (.aload_n 0, 1) := by decide +kernel
theorem dc_17_1 : decode cc_17 1 = .ok (.getfield 15, 3) := by decide +kernel
theorem dc_17_4 : decode cc_17 4 = .ok (.sipush 640, 3) := by decide +kernel
theorem dc_17_7 : decode cc_17 7 = .ok (.if_icmp .ge (23), 3) := by decide +kernel
theorem dc_17_10 : decode cc_17 10 = .ok (.aload_n 0, 1) := by decide +kernel
theorem dc_17_11 : decode cc_17 11 = .ok (.getfield 9, 3) := by decide +kernel
theorem dc_17_14 : decode cc_17 14 = .ok (.aload_n 0, 1) := by decide +kernel
theorem dc_17_15 : decode cc_17 15 = .ok (.getfield 15, 3) := by decide +kernel
theorem dc_17_18 : decode cc_17 18 = .ok (.iload_n 1, 1) := by decide +kernel
theorem dc_17_19 : decode cc_17 19 = .ok (.castore, 1) := by decide +kernel
theorem dc_17_20 : decode cc_17 20 = .ok (.aload_n 0, 1) := by decide +kernel
theorem dc_17_21 : decode cc_17 21 = .ok (.dup, 1) := by decide +kernel
theorem dc_17_22 : decode cc_17 22 = .ok (.getfield 15, 3) := by decide +kernel
theorem dc_17_25 : decode cc_17 25 = .ok (.iconst 1, 1) := by decide +kernel
theorem dc_17_26 : decode cc_17 26 = .ok (.iadd, 1) := by decide +kernel
theorem dc_17_27 : decode cc_17 27 = .ok (.putfield 15, 3) := by decide +kernel
theorem dc_17_30 : decode cc_17 30 = .ok (.return_, 1) := by decide +kernel
theorem dc_18_0 : decode cc_18 0 = .ok (.iconst 0, 1) := by decide +kernel
theorem dc_18_1 : decode cc_18 1 = .ok (.istore_n 3, 1) := by decide +kernel
theorem dc_18_2 : decode cc_18 2 = .ok (.iload_n 3, 1) := by decide +kernel
theorem dc_18_3 : decode cc_18 3 = .ok (.iload_n 2, 1) := by decide +kernel
theorem dc_18_4 : decode cc_18 4 = .ok (.if_icmp .ge (14), 3) := by decide +kernel
theorem dc_18_7 : decode cc_18 7 = .ok (.aload_n 0, 1) := by decide +kernel
theorem dc_18_8 : decode cc_18 8 = .ok (.iload_n 1, 1) := by decide +kernel
theorem dc_18_9 : decode cc_18 9 = .ok (.invokevirtual 19, 3) := by decide +kernel
theorem dc_18_12 : decode cc_18 12 = .ok (.iinc 3 1, 3) := by decide +kernel
theorem dc_18_15 : decode cc_18 15 = .ok (.goto (-13), 3) := by decide +kernel
theorem dc_18_18 : decode cc_18 18 = .ok (.return_, 1) := by decide +kernel
theorem dc_19_0 : decode cc_19 0 = .ok (.iload_n 2, 1) := by decide +kernel
theorem dc_19_1 : decode cc_19 1 = .ok (.istore 4, 2) := by decide +kernel
theorem dc_19_3 : decode cc_19 3 = .ok (.iload 4, 2) := by decide +kernel
theorem dc_19_5 : decode cc_19 5 = .ok (.iload_n 3, 1) := by decide +kernel
theorem dc_19_6 : decode cc_19 6 = .ok (.if_icmp .ge (19), 3) := by decide +kernel
theorem dc_19_9 : decode cc_19 9 = .ok (.aload_n 0, 1) := by decide +kernel
theorem dc_19_10 : decode cc_19 10 = .ok (.aload_n 1, 1) := by decide +kernel
theorem dc_19_11 : decode cc_19 11 = .ok (.iload 4, 2) := by decide +kernel
theorem dc_19_13 : decode cc_19 13 = .ok (.invokevirtual 23, 3) := by decide +kernel
theorem dc_19_16 : decode cc_19 16 = .ok (.invokevirtual 19, 3) := by decide +kernel
theorem dc_19_19 : decode cc_19 19 = .ok (.iinc 4 1, 3) := by decide +kernel
theorem dc_19_22 : decode cc_19 22 = .ok (.goto (-19), 3) := by decide +kernel
theorem dc_19_25 : decode cc_19 25 = .ok (.return_, 1) := by decide +kernel
theorem dc_20_0 : decode cc_20 0 = .ok (.iconst 0, 1) := by decide +kernel
theorem dc_20_1 : decode cc_20 1 = .ok (.istore_n 3, 1) := by decide +kernel
theorem dc_20_2 : decode cc_20 2 = .ok (.iload_n 3, 1) := by decide +kernel
theorem dc_20_3 : decode cc_20 3 = .ok (.bipush 8, 2) := by decide +kernel
theorem dc_20_5 : decode cc_20 5 = .ok (.if_icmp .ge (27), 3) := by decide +kernel
theorem dc_20_8 : decode cc_20 8 = .ok (.lload_n 1, 1) := by decide +kernel
theorem dc_20_9 : decode cc_20 9 = .ok (.iload_n 3, 1) := by decide +kernel
theorem dc_20_10 : decode cc_20 10 = .ok (.invokestatic 27, 3) := by decide +kernel
theorem dc_20_13 : decode cc_20 13 = .ok (.istore 4, 2) := by decide +kernel
theorem dc_20_15 : decode cc_20 15 = .ok (.iload 4, 2) := by decide +kernel
theorem dc_20_17 : decode cc_20 17 = .ok (.ifCond .eq (9), 3) := by decide +kernel
theorem dc_20_20 : decode cc_20 20 = .ok (.aload_n 0, 1) := by decide +kernel
theorem dc_20_21 : decode cc_20 21 = .ok (.iload 4, 2) := by decide +kernel
theorem dc_20_23 : decode cc_20 23 = .ok (.invokevirtual 19, 3) := by decide +kernel
theorem dc_20_26 : decode cc_20 26 = .ok (.iinc 3 1, 3) := by decide +kernel
theorem dc_20_29 : decode cc_20 29 = .ok (.goto (-27), 3) := by decide +kernel
theorem dc_20_32 : decode cc_20 32 = .ok (.return_, 1) := by decide +kernel
theorem dc_21_0 : decode cc_21 0 = .ok (.iload_n 1, 1) := by decide +kernel
theorem dc_21_1 : decode cc_21 1 = .ok (.bipush 10, 2) := by decide +kernel
theorem dc_21_3 : decode cc_21 3 = .ok (.if_icmp .lt (18), 3) := by decide +kernel
theorem dc_21_6 : decode cc_21 6 = .ok (.aload_n 0, 1) := by decide +kernel
theorem dc_21_7 : decode cc_21 7 = .ok (.bipush 48, 2) := by decide +kernel
theorem dc_21_9 : decode cc_21 9 = .ok (.iload_n 1, 1) := by decide +kernel
theorem dc_21_10 : decode cc_21 10 = .ok (.bipush 10, 2) := by decide +kernel
theorem dc_21_12 : decode cc_21 12 = .ok (.idiv, 1) := by decide +kernel
theorem dc_21_13 : decode cc_21 13 = .ok (.bipush 10, 2) := by decide +kernel
theorem dc_21_15 : decode cc_21 15 = .ok (.irem, 1) := by decide +kernel
theorem dc_21_16 : decode cc_21 16 = .ok (.iadd, 1) := by decide +kernel
theorem dc_21_17 : decode cc_21 17 = .ok (.i2c, 1) := by decide +kernel
theorem dc_21_18 : decode cc_21 18 = .ok (.invokevirtual 19, 3) := by decide +kernel
theorem dc_21_21 : decode cc_21 21 = .ok (.aload_n 0, 1) := by decide +kernel
theorem dc_21_22 : decode cc_21 22 = .ok (.bipush 48, 2) := by decide +kernel
theorem dc_21_24 : decode cc_21 24 = .ok (.iload_n 1, 1) := by decide +kernel
theorem dc_21_25 : decode cc_21 25 = .ok (.bipush 10, 2) := by decide +kernel
theorem dc_21_27 : decode cc_21 27 = .ok (.irem, 1) := by decide +kernel
theorem dc_21_28 : decode cc_21 28 = .ok (.iadd, 1) := by decide +kernel
theorem dc_21_29 : decode cc_21 29 = .ok (.i2c, 1) := by decide +kernel
theorem dc_21_30 : decode cc_21 30 = .ok (.invokevirtual 19, 3) := by decide +kernel
theorem dc_21_33 : decode cc_21 33 = .ok (.return_, 1) := by decide +kernel
theorem dc_22_0 : decode cc_22 0 = .ok (.iload_n 1, 1) := by decide +kernel
theorem dc_22_1 : decode cc_22 1 = .ok (.ifCond .lt (20), 3) := by decide +kernel
theorem dc_22_4 : decode cc_22 4 = .ok (.iload_n 1, 1) := by decide +kernel
theorem dc_22_5 : decode cc_22 5 = .ok (.aload_n 0, 1) := by decide +kernel
theorem dc_22_6 : decode cc_22 6 = .ok (.getfield 19, 3) := by decide +kernel
theorem dc_22_9 : decode cc_22 9 = .ok (.if_icmp .ge (12), 3) := by decide +kernel
theorem dc_22_12 : decode cc_22 12 = .ok (.aload_n 0, 1) := by decide +kernel
theorem dc_22_13 : decode cc_22 13 = .ok (.getfield 9, 3) := by decide +kernel
theorem dc_22_16 : decode cc_22 16 = .ok (.iload_n 1, 1) := by decide +kernel
theorem dc_22_17 : decode cc_22 17 = .ok (.iaload, 1) := by decide +kernel
theorem dc_22_18 : decode cc_22 18 = .ok (.goto (4), 3) := by decide +kernel
theorem dc_22_21 : decode cc_22 21 = .ok (.iconst 0, 1) := by decide +kernel
theorem dc_22_22 : decode cc_22 22 = .ok (.ireturn, 1) := by decide +kernel
theorem dc_23_0 : decode cc_23 0 = .ok (.iload_n 1, 1) := by decide +kernel
theorem dc_23_1 : decode cc_23 1 = .ok (.ifCond .lt (20), 3) := by decide +kernel
theorem dc_23_4 : decode cc_23 4 = .ok (.iload_n 1, 1) := by decide +kernel
theorem dc_23_5 : decode cc_23 5 = .ok (.aload_n 0, 1) := by decide +kernel
theorem dc_23_6 : decode cc_23 6 = .ok (.getfield 19, 3) := by decide +kernel
theorem dc_23_9 : decode cc_23 9 = .ok (.if_icmp .ge (12), 3) := by decide +kernel
theorem dc_23_12 : decode cc_23 12 = .ok (.aload_n 0, 1) := by decide +kernel
theorem dc_23_13 : decode cc_23 13 = .ok (.getfield 15, 3) := by decide +kernel
theorem dc_23_16 : decode cc_23 16 = .ok (.iload_n 1, 1) := by decide +kernel
theorem dc_23_17 : decode cc_23 17 = .ok (.laload, 1) := by decide +kernel
theorem dc_23_18 : decode cc_23 18 = .ok (.goto (4), 3) := by decide +kernel
theorem dc_23_21 : decode cc_23 21 = .ok (.lconst 0, 1) := by decide +kernel
theorem dc_23_22 : decode cc_23 22 = .ok (.lreturn, 1) := by decide +kernel
theorem dc_24_0 : decode cc_24 0 = .ok (.aload_n 0, 1) := by decide +kernel
theorem dc_24_1 : decode cc_24 1 = .ok (.iconst 0, 1) := by decide +kernel
theorem dc_24_2 : decode cc_24 2 = .ok (.putfield 19, 3) := by decide +kernel
theorem dc_24_5 : decode cc_24 5 = .ok (.iconst 0, 1) := by decide +kernel
theorem dc_24_6 : decode cc_24 6 = .ok (.istore_n 3, 1) := by decide +kernel
theorem dc_24_7 : decode cc_24 7 = .ok (.iconst 0, 1) := by decide +kernel
theorem dc_24_8 : decode cc_24 8 = .ok (.istore 4, 2) := by decide +kernel
theorem dc_24_10 : decode cc_24 10 = .ok (.iload 4, 2) := by decide +kernel
theorem dc_24_12 : decode cc_24 12 = .ok (.iload_n 2, 1) := by decide +kernel
theorem dc_24_13 : decode cc_24 13 = .ok (.if_icmp .ge (85), 3) := by decide +kernel
theorem dc_24_16 : decode cc_24 16 = .ok (.aload_n 1, 1) := by decide +kernel
theorem dc_24_17 : decode cc_24 17 = .ok (.iload 4, 2) := by decide +kernel
theorem dc_24_19 : decode cc_24 19 = .ok (.caload, 1) := by decide +kernel
theorem dc_24_20 : decode cc_24 20 = .ok (.istore 5, 2) := by decide +kernel
theorem dc_24_22 : decode cc_24 22 = .ok (.iload 5, 2) := by decide +kernel
theorem dc_24_24 : decode cc_24 24 = .ok (.bipush 32, 2) := by decide +kernel
theorem dc_24_26 : decode cc_24 26 = .ok (.if_icmp .eq (10), 3) := by decide +kernel
theorem dc_24_29 : decode cc_24 29 = .ok (.iload 5, 2) := by decide +kernel
theorem dc_24_31 : decode cc_24 31 = .ok (.bipush 10, 2) := by decide +kernel
theorem dc_24_33 : decode cc_24 33 = .ok (.if_icmp .ne (7), 3) := by decide +kernel
theorem dc_24_36 : decode cc_24 36 = .ok (.iconst 1, 1) := by decide +kernel
theorem dc_24_37 : decode cc_24 37 = .ok (.goto (4), 3) := by decide +kernel
theorem dc_24_40 : decode cc_24 40 = .ok (.iconst 0, 1) := by decide +kernel
theorem dc_24_41 : decode cc_24 41 = .ok (.istore 6, 2) := by decide +kernel
theorem dc_24_43 : decode cc_24 43 = .ok (.iload_n 3, 1) := by decide +kernel
theorem dc_24_44 : decode cc_24 44 = .ok (.ifCond .eq (21), 3) := by decide +kernel
theorem dc_24_47 : decode cc_24 47 = .ok (.aload_n 0, 1) := by decide +kernel
theorem dc_24_48 : decode cc_24 48 = .ok (.iload 5, 2) := by decide +kernel
theorem dc_24_50 : decode cc_24 50 = .ok (.invokevirtual 26, 3) := by decide +kernel
theorem dc_24_53 : decode cc_24 53 = .ok (.ifCond .eq (12), 3) := by decide +kernel
theorem dc_24_56 : decode cc_24 56 = .ok (.aload_n 0, 1) := by decide +kernel
theorem dc_24_57 : decode cc_24 57 = .ok (.iload 5, 2) := by decide +kernel
theorem dc_24_59 : decode cc_24 59 = .ok (.invokevirtual 30, 3) := by decide +kernel
theorem dc_24_62 : decode cc_24 62 = .ok (.goto (19), 3) := by decide +kernel
theorem dc_24_65 : decode cc_24 65 = .ok (.iload 6, 2) := by decide +kernel
theorem dc_24_67 : decode cc_24 67 = .ok (.ifCond .ne (14), 3) := by decide +kernel
theorem dc_24_70 : decode cc_24 70 = .ok (.aload_n 0, 1) := by decide +kernel
theorem dc_24_71 : decode cc_24 71 = .ok (.iload 5, 2) := by decide +kernel
theorem dc_24_73 : decode cc_24 73 = .ok (.invokestatic 34, 3) := by decide +kernel
theorem dc_24_76 : decode cc_24 76 = .ok (.iload 5, 2) := by decide +kernel
theorem dc_24_78 : decode cc_24 78 = .ok (.invokevirtual 38, 3) := by decide +kernel
theorem dc_24_81 : decode cc_24 81 = .ok (.iload 6, 2) := by decide +kernel
theorem dc_24_83 : decode cc_24 83 = .ok (.ifCond .ne (7), 3) := by decide +kernel
theorem dc_24_86 : decode cc_24 86 = .ok (.iconst 1, 1) := by decide +kernel
theorem dc_24_87 : decode cc_24 87 = .ok (.goto (4), 3) := by decide +kernel
theorem dc_24_90 : decode cc_24 90 = .ok (.iconst 0, 1) := by decide +kernel
theorem dc_24_91 : decode cc_24 91 = .ok (.istore_n 3, 1) := by decide +kernel
theorem dc_24_92 : decode cc_24 92 = .ok (.iinc 4 1, 3) := by decide +kernel
theorem dc_24_95 : decode cc_24 95 = .ok (.goto (-85), 3) := by decide +kernel
theorem dc_24_98 : decode cc_24 98 = .ok (.iconst 0, 1) := by decide +kernel
theorem dc_24_99 : decode cc_24 99 = .ok (.istore 4, 2) := by decide +kernel
theorem dc_24_101 : decode cc_24 101 = .ok (.iload 4, 2) := by decide +kernel
theorem dc_24_103 : decode cc_24 103 = .ok (.aload_n 0, 1) := by decide +kernel
theorem dc_24_104 : decode cc_24 104 = .ok (.getfield 19, 3) := by decide +kernel
theorem dc_24_107 : decode cc_24 107 = .ok (.if_icmp .ge (37), 3) := by decide +kernel
theorem dc_24_110 : decode cc_24 110 = .ok (.aload_n 0, 1) := by decide +kernel
theorem dc_24_111 : decode cc_24 111 = .ok (.getfield 9, 3) := by decide +kernel
theorem dc_24_114 : decode cc_24 114 = .ok (.iload 4, 2) := by decide +kernel
theorem dc_24_116 : decode cc_24 116 = .ok (.iaload, 1) := by decide +kernel
theorem dc_24_117 : decode cc_24 117 = .ok (.iconst 2, 1) := by decide +kernel
theorem dc_24_118 : decode cc_24 118 = .ok (.if_icmp .ne (20), 3) := by decide +kernel
theorem dc_24_121 : decode cc_24 121 = .ok (.aload_n 0, 1) := by decide +kernel
theorem dc_24_122 : decode cc_24 122 = .ok (.getfield 9, 3) := by decide +kernel
theorem dc_24_125 : decode cc_24 125 = .ok (.iload 4, 2) := by decide +kernel
theorem dc_24_127 : decode cc_24 127 = .ok (.aload_n 0, 1) := by decide +kernel
theorem dc_24_128 : decode cc_24 128 = .ok (.getfield 15, 3) := by decide +kernel
theorem dc_24_131 : decode cc_24 131 = .ok (.iload 4, 2) := by decide +kernel
theorem dc_24_133 : decode cc_24 133 = .ok (.laload, 1) := by decide +kernel
theorem dc_24_134 : decode cc_24 134 = .ok (.invokestatic 42, 3) := by decide +kernel
theorem dc_24_137 : decode cc_24 137 = .ok (.iastore, 1) := by decide +kernel
theorem dc_24_138 : decode cc_24 138 = .ok (.iinc 4 1, 3) := by decide +kernel
theorem dc_24_141 : decode cc_24 141 = .ok (.goto (-40), 3) := by decide +kernel
theorem dc_24_144 : decode cc_24 144 = .ok (.return_, 1) := by decide +kernel
theorem dc_25_0 : decode cc_25 0 = .ok (.aload_n 0, 1) := by decide +kernel
theorem dc_25_1 : decode cc_25 1 = .ok (.aload_n 0, 1) := by decide +kernel
theorem dc_25_2 : decode cc_25 2 = .ok (.getfield 19, 3) := by decide +kernel
theorem dc_25_5 : decode cc_25 5 = .ok (.iconst 1, 1) := by decide +kernel
theorem dc_25_6 : decode cc_25 6 = .ok (.isub, 1) := by decide +kernel
theorem dc_25_7 : decode cc_25 7 = .ok (.invokevirtual 46, 3) := by decide +kernel
theorem dc_25_10 : decode cc_25 10 = .ok (.istore_n 2, 1) := by decide +kernel
theorem dc_25_11 : decode cc_25 11 = .ok (.iload_n 1, 1) := by decide +kernel
theorem dc_25_12 : decode cc_25 12 = .ok (.invokestatic 50, 3) := by decide +kernel
theorem dc_25_15 : decode cc_25 15 = .ok (.ifCond .eq (21), 3) := by decide +kernel
theorem dc_25_18 : decode cc_25 18 = .ok (.iload_n 2, 1) := by decide +kernel
theorem dc_25_19 : decode cc_25 19 = .ok (.iconst 2, 1) := by decide +kernel
theorem dc_25_20 : decode cc_25 20 = .ok (.if_icmp .eq (8), 3) := by decide +kernel
theorem dc_25_23 : decode cc_25 23 = .ok (.iload_n 2, 1) := by decide +kernel
theorem dc_25_24 : decode cc_25 24 = .ok (.iconst 3, 1) := by decide +kernel
theorem dc_25_25 : decode cc_25 25 = .ok (.if_icmp .ne (7), 3) := by decide +kernel
theorem dc_25_28 : decode cc_25 28 = .ok (.iconst 1, 1) := by decide +kernel
theorem dc_25_29 : decode cc_25 29 = .ok (.goto (24), 3) := by decide +kernel
theorem dc_25_32 : decode cc_25 32 = .ok (.iconst 0, 1) := by decide +kernel
theorem dc_25_33 : decode cc_25 33 = .ok (.goto (20), 3) := by decide +kernel
theorem dc_25_36 : decode cc_25 36 = .ok (.iload_n 1, 1) := by decide +kernel
theorem dc_25_37 : decode cc_25 37 = .ok (.invokestatic 53, 3) := by decide +kernel
theorem dc_25_40 : decode cc_25 40 = .ok (.ifCond .eq (12), 3) := by decide +kernel
theorem dc_25_43 : decode cc_25 43 = .ok (.iload_n 2, 1) := by decide +kernel
theorem dc_25_44 : decode cc_25 44 = .ok (.iconst 2, 1) := by decide +kernel
theorem dc_25_45 : decode cc_25 45 = .ok (.if_icmp .ne (7), 3) := by decide +kernel
theorem dc_25_48 : decode cc_25 48 = .ok (.iconst 1, 1) := by decide +kernel
theorem dc_25_49 : decode cc_25 49 = .ok (.goto (4), 3) := by decide +kernel
theorem dc_25_52 : decode cc_25 52 = .ok (.iconst 0, 1) := by decide +kernel
theorem dc_25_53 : decode cc_25 53 = .ok (.ireturn, 1) := by decide +kernel
theorem dc_26_0 : decode cc_26 0 = .ok (.aload_n 0, 1) := by decide +kernel
theorem dc_26_1 : decode cc_26 1 = .ok (.getfield 19, 3) := by decide +kernel
theorem dc_26_4 : decode cc_26 4 = .ok (.iconst 1, 1) := by decide +kernel
theorem dc_26_5 : decode cc_26 5 = .ok (.isub, 1) := by decide +kernel
theorem dc_26_6 : decode cc_26 6 = .ok (.istore_n 2, 1) := by decide +kernel
theorem dc_26_7 : decode cc_26 7 = .ok (.aload_n 0, 1) := by decide +kernel
theorem dc_26_8 : decode cc_26 8 = .ok (.getfield 23, 3) := by decide +kernel
theorem dc_26_11 : decode cc_26 11 = .ok (.aload_n 0, 1) := by decide +kernel
theorem dc_26_12 : decode cc_26 12 = .ok (.iload_n 2, 1) := by decide +kernel
theorem dc_26_13 : decode cc_26 13 = .ok (.invokevirtual 46, 3) := by decide +kernel
theorem dc_26_16 : decode cc_26 16 = .ok (.iconst 2, 1) := by decide +kernel
theorem dc_26_17 : decode cc_26 17 = .ok (.if_icmp .ne (8), 3) := by decide +kernel
theorem dc_26_20 : decode cc_26 20 = .ok (.bipush 8, 2) := by decide +kernel
theorem dc_26_22 : decode cc_26 22 = .ok (.goto (4), 3) := by decide +kernel
theorem dc_26_25 : decode cc_26 25 = .ok (.iconst 4, 1) := by decide +kernel
theorem dc_26_26 : decode cc_26 26 = .ok (.if_icmp .ge (35), 3) := by decide +kernel
theorem dc_26_29 : decode cc_26 29 = .ok (.aload_n 0, 1) := by decide +kernel
theorem dc_26_30 : decode cc_26 30 = .ok (.getfield 15, 3) := by decide +kernel
theorem dc_26_33 : decode cc_26 33 = .ok (.iload_n 2, 1) := by decide +kernel
theorem dc_26_34 : decode cc_26 34 = .ok (.dup2, 1) := by decide +kernel
theorem dc_26_35 : decode cc_26 35 = .ok (.laload, 1) := by decide +kernel
theorem dc_26_36 : decode cc_26 36 = .ok (.iload_n 1, 1) := by decide +kernel
theorem dc_26_37 : decode cc_26 37 = .ok (.i2l, 1) := by decide +kernel
theorem dc_26_38 : decode cc_26 38 = .ok (.bipush 8, 2) := by decide +kernel
theorem dc_26_40 : decode cc_26 40 = .ok (.aload_n 0, 1) := by decide +kernel
theorem dc_26_41 : decode cc_26 41 = .ok (.getfield 23, 3) := by decide +kernel
theorem dc_26_44 : decode cc_26 44 = .ok (.imul, 1) := by decide +kernel
theorem dc_26_45 : decode cc_26 45 = .ok (.lshl, 1) := by decide +kernel
theorem dc_26_46 : decode cc_26 46 = .ok (.lor, 1) := by decide +kernel
theorem dc_26_47 : decode cc_26 47 = .ok (.lastore, 1) := by decide +kernel
theorem dc_26_48 : decode cc_26 48 = .ok (.aload_n 0, 1) := by decide +kernel
theorem dc_26_49 : decode cc_26 49 = .ok (.dup, 1) := by decide +kernel
theorem dc_26_50 : decode cc_26 50 = .ok (.getfield 23, 3) := by decide +kernel
theorem dc_26_53 : decode cc_26 53 = .ok (.iconst 1, 1) := by decide +kernel
theorem dc_26_54 : decode cc_26 54 = .ok (.iadd, 1) := by decide +kernel
theorem dc_26_55 : decode cc_26 55 = .ok (.putfield 23, 3) := by decide +kernel
theorem dc_26_58 : decode cc_26 58 = .ok (.goto (9), 3) := by decide +kernel
theorem dc_26_61 : decode cc_26 61 = .ok (.aload_n 0, 1) := by decide +kernel
theorem dc_26_62 : decode cc_26 62 = .ok (.iconst 1, 1) := by decide +kernel
theorem dc_26_63 : decode cc_26 63 = .ok (.iload_n 1, 1) := by decide +kernel
theorem dc_26_64 : decode cc_26 64 = .ok (.invokevirtual 38, 3) := by decide +kernel
theorem dc_26_67 : decode cc_26 67 = .ok (.return_, 1) := by decide +kernel
theorem dc_27_0 : decode cc_27 0 = .ok (.aload_n 0, 1) := by decide +kernel
theorem dc_27_1 : decode cc_27 1 = .ok (.getfield 19, 3) := by decide +kernel
theorem dc_27_4 : decode cc_27 4 = .ok (.sipush 160, 3) := by decide +kernel
theorem dc_27_7 : decode cc_27 7 = .ok (.if_icmp .ge (39), 3) := by decide +kernel
theorem dc_27_10 : decode cc_27 10 = .ok (.aload_n 0, 1) := by decide +kernel
theorem dc_27_11 : decode cc_27 11 = .ok (.getfield 9, 3) := by decide +kernel
theorem dc_27_14 : decode cc_27 14 = .ok (.aload_n 0, 1) := by decide +kernel
theorem dc_27_15 : decode cc_27 15 = .ok (.getfield 19, 3) := by decide +kernel
theorem dc_27_18 : decode cc_27 18 = .ok (.iload_n 1, 1) := by decide +kernel
theorem dc_27_19 : decode cc_27 19 = .ok (.iastore, 1) := by decide +kernel
theorem dc_27_20 : decode cc_27 20 = .ok (.aload_n 0, 1) := by decide +kernel
theorem dc_27_21 : decode cc_27 21 = .ok (.getfield 15, 3) := by decide +kernel
theorem dc_27_24 : decode cc_27 24 = .ok (.aload_n 0, 1) := by decide +kernel
theorem dc_27_25 : decode cc_27 25 = .ok (.getfield 19, 3) := by decide +kernel
theorem dc_27_28 : decode cc_27 28 = .ok (.iload_n 2, 1) := by decide +kernel
theorem dc_27_29 : decode cc_27 29 = .ok (.i2l, 1) := by decide +kernel
theorem dc_27_30 : decode cc_27 30 = .ok (.lastore, 1) := by decide +kernel
theorem dc_27_31 : decode cc_27 31 = .ok (.aload_n 0, 1) := by decide +kernel
theorem dc_27_32 : decode cc_27 32 = .ok (.iconst 1, 1) := by decide +kernel
theorem dc_27_33 : decode cc_27 33 = .ok (.putfield 23, 3) := by decide +kernel
theorem dc_27_36 : decode cc_27 36 = .ok (.aload_n 0, 1) := by decide +kernel
theorem dc_27_37 : decode cc_27 37 = .ok (.dup, 1) := by decide +kernel
theorem dc_27_38 : decode cc_27 38 = .ok (.getfield 19, 3) := by decide +kernel
theorem dc_27_41 : decode cc_27 41 = .ok (.iconst 1, 1) := by decide +kernel
theorem dc_27_42 : decode cc_27 42 = .ok (.iadd, 1) := by decide +kernel
theorem dc_27_43 : decode cc_27 43 = .ok (.putfield 19, 3) := by decide +kernel
theorem dc_27_46 : decode cc_27 46 = .ok (.return_, 1) := by decide +kernel
theorem dc_28_0 : decode cc_28 0 = .ok (.iload_n 0, 1) := by decide +kernel
theorem dc_28_1 : decode cc_28 1 = .ok (.invokestatic 53, 3) := by decide +kernel
theorem dc_28_4 : decode cc_28 4 = .ok (.ifCond .eq (5), 3) := by decide +kernel
theorem dc_28_7 : decode cc_28 7 = .ok (.iconst 2, 1) := by decide +kernel
theorem dc_28_8 : decode cc_28 8 = .ok (.ireturn, 1) := by decide +kernel
theorem dc_28_9 : decode cc_28 9 = .ok (.iload_n 0, 1) := by decide +kernel
theorem dc_28_10 : decode cc_28 10 = .ok (.invokestatic 50, 3) := by decide +kernel
theorem dc_28_13 : decode cc_28 13 = .ok (.ifCond .eq (5), 3) := by decide +kernel
theorem dc_28_16 : decode cc_28 16 = .ok (.iconst 3, 1) := by decide +kernel
theorem dc_28_17 : decode cc_28 17 = .ok (.ireturn, 1) := by decide +kernel
theorem dc_28_18 : decode cc_28 18 = .ok (.ldc 56, 2) := by decide +kernel
theorem dc_28_20 : decode cc_28 20 = .ok (.iload_n 0, 1) := by decide +kernel
theorem dc_28_21 : decode cc_28 21 = .ok (.invokevirtual 58, 3) := by decide +kernel
theorem dc_28_24 : decode cc_28 24 = .ok (.ifCond .lt (7), 3) := by decide +kernel
theorem dc_28_27 : decode cc_28 27 = .ok (.iload_n 0, 1) := by decide +kernel
theorem dc_28_28 : decode cc_28 28 = .ok (.goto (4), 3) := by decide +kernel
theorem dc_28_31 : decode cc_28 31 = .ok (.iconst 1, 1) := by decide +kernel
theorem dc_28_32 : decode cc_28 32 = .ok (.ireturn, 1) := by decide +kernel
theorem dc_29_0 : decode cc_29 0 = .ok (.iload_n 0, 1) := by decide +kernel
theorem dc_29_1 : decode cc_29 1 = .ok (.bipush 97, 2) := by decide +kernel
theorem dc_29_3 : decode cc_29 3 = .ok (.if_icmp .lt (13), 3) := by decide +kernel
theorem dc_29_6 : decode cc_29 6 = .ok (.iload_n 0, 1) := by decide +kernel
theorem dc_29_7 : decode cc_29 7 = .ok (.bipush 122, 2) := by decide +kernel
theorem dc_29_9 : decode cc_29 9 = .ok (.if_icmp .gt (7), 3) := by decide +kernel
theorem dc_29_12 : decode cc_29 12 = .ok (.iconst 1, 1) := by decide +kernel
theorem dc_29_13 : decode cc_29 13 = .ok (.goto (4), 3) := by decide +kernel
theorem dc_29_16 : decode cc_29 16 = .ok (.iconst 0, 1) := by decide +kernel
theorem dc_29_17 : decode cc_29 17 = .ok (.ireturn, 1) := by decide +kernel
theorem dc_30_0 : decode cc_30 0 = .ok (.iload_n 0, 1) := by decide +kernel
theorem dc_30_1 : decode cc_30 1 = .ok (.bipush 48, 2) := by decide +kernel
theorem dc_30_3 : decode cc_30 3 = .ok (.if_icmp .lt (13), 3) := by decide +kernel
theorem dc_30_6 : decode cc_30 6 = .ok (.iload_n 0, 1) := by decide +kernel
theorem dc_30_7 : decode cc_30 7 = .ok (.bipush 57, 2) := by decide +kernel
theorem dc_30_9 : decode cc_30 9 = .ok (.if_icmp .gt (7), 3) := by decide +kernel
theorem dc_30_12 : decode cc_30 12 = .ok (.iconst 1, 1) := by decide +kernel
theorem dc_30_13 : decode cc_30 13 = .ok (.goto (4), 3) := by decide +kernel
theorem dc_30_16 : decode cc_30 16 = .ok (.iconst 0, 1) := by decide +kernel
theorem dc_30_17 : decode cc_30 17 = .ok (.ireturn, 1) := by decide +kernel
theorem dc_31_0 : decode cc_31 0 = .ok (.lload_n 0, 1) := by decide +kernel
theorem dc_31_1 : decode cc_31 1 = .ok (.ldc 63, 2) := by decide +kernel
theorem dc_31_3 : decode cc_31 3 = .ok (.invokestatic 65, 3) := by decide +kernel
theorem dc_31_6 : decode cc_31 6 = .ok (.lcmp, 1) := by decide +kernel
theorem dc_31_7 : decode cc_31 7 = .ok (.ifCond .ne (5), 3) := by decide +kernel
theorem dc_31_10 : decode cc_31 10 = .ok (.iconst 4, 1) := by decide +kernel
theorem dc_31_11 : decode cc_31 11 = .ok (.ireturn, 1) := by decide +kernel
theorem dc_31_12 : decode cc_31 12 = .ok (.lload_n 0, 1) := by decide +kernel
theorem dc_31_13 : decode cc_31 13 = .ok (.ldc 69, 2) := by decide +kernel
theorem dc_31_15 : decode cc_31 15 = .ok (.invokestatic 65, 3) := by decide +kernel
theorem dc_31_18 : decode cc_31 18 = .ok (.lcmp, 1) := by decide +kernel
theorem dc_31_19 : decode cc_31 19 = .ok (.ifCond .ne (5), 3) := by decide +kernel
theorem dc_31_22 : decode cc_31 22 = .ok (.iconst 5, 1) := by decide +kernel
theorem dc_31_23 : decode cc_31 23 = .ok (.ireturn, 1) := by decide +kernel
theorem dc_31_24 : decode cc_31 24 = .ok (.lload_n 0, 1) := by decide +kernel
theorem dc_31_25 : decode cc_31 25 = .ok (.ldc 71, 2) := by decide +kernel
theorem dc_31_27 : decode cc_31 27 = .ok (.invokestatic 65, 3) := by decide +kernel
theorem dc_31_30 : decode cc_31 30 = .ok (.lcmp, 1) := by decide +kernel
theorem dc_31_31 : decode cc_31 31 = .ok (.ifCond .ne (6), 3) := by decide +kernel
theorem dc_31_34 : decode cc_31 34 = .ok (.bipush 6, 2) := by decide +kernel
theorem dc_31_36 : decode cc_31 36 = .ok (.ireturn, 1) := by decide +kernel
theorem dc_31_37 : decode cc_31 37 = .ok (.lload_n 0, 1) := by decide +kernel
theorem dc_31_38 : decode cc_31 38 = .ok (.ldc 73, 2) := by decide +kernel
theorem dc_31_40 : decode cc_31 40 = .ok (.invokestatic 65, 3) := by decide +kernel
theorem dc_31_43 : decode cc_31 43 = .ok (.lcmp, 1) := by decide +kernel
theorem dc_31_44 : decode cc_31 44 = .ok (.ifCond .ne (6), 3) := by decide +kernel
theorem dc_31_47 : decode cc_31 47 = .ok (.bipush 7, 2) := by decide +kernel
theorem dc_31_49 : decode cc_31 49 = .ok (.ireturn, 1) := by decide +kernel
theorem dc_31_50 : decode cc_31 50 = .ok (.lload_n 0, 1) := by decide +kernel
theorem dc_31_51 : decode cc_31 51 = .ok (.ldc 75, 2) := by decide +kernel
theorem dc_31_53 : decode cc_31 53 = .ok (.invokestatic 65, 3) := by decide +kernel
theorem dc_31_56 : decode cc_31 56 = .ok (.lcmp, 1) := by decide +kernel
theorem dc_31_57 : decode cc_31 57 = .ok (.ifCond .ne (6), 3) := by decide +kernel
theorem dc_31_60 : decode cc_31 60 = .ok (.bipush 8, 2) := by decide +kernel
theorem dc_31_62 : decode cc_31 62 = .ok (.ireturn, 1) := by decide +kernel
theorem dc_31_63 : decode cc_31 63 = .ok (.lload_n 0, 1) := by decide +kernel
theorem dc_31_64 : decode cc_31 64 = .ok (.ldc 77, 2) := by decide +kernel
theorem dc_31_66 : decode cc_31 66 = .ok (.invokestatic 65, 3) := by decide +kernel
theorem dc_31_69 : decode cc_31 69 = .ok (.lcmp, 1) := by decide +kernel
theorem dc_31_70 : decode cc_31 70 = .ok (.ifCond .ne (6), 3) := by decide +kernel
theorem dc_31_73 : decode cc_31 73 = .ok (.bipush 9, 2) := by decide +kernel
theorem dc_31_75 : decode cc_31 75 = .ok (.ireturn, 1) := by decide +kernel
theorem dc_31_76 : decode cc_31 76 = .ok (.lload_n 0, 1) := by decide +kernel
theorem dc_31_77 : decode cc_31 77 = .ok (.ldc 79, 2) := by decide +kernel
theorem dc_31_79 : decode cc_31 79 = .ok (.invokestatic 65, 3) := by decide +kernel
theorem dc_31_82 : decode cc_31 82 = .ok (.lcmp, 1) := by decide +kernel
theorem dc_31_83 : decode cc_31 83 = .ok (.ifCond .ne (6), 3) := by decide +kernel
theorem dc_31_86 : decode cc_31 86 = .ok (.bipush 10, 2) := by decide +kernel
theorem dc_31_88 : decode cc_31 88 = .ok (.ireturn, 1) := by decide +kernel
theorem dc_31_89 : decode cc_31 89 = .ok (.lload_n 0, 1) := by decide +kernel
theorem dc_31_90 : decode cc_31 90 = .ok (.ldc 81, 2) := by decide +kernel
theorem dc_31_92 : decode cc_31 92 = .ok (.invokestatic 65, 3) := by decide +kernel
theorem dc_31_95 : decode cc_31 95 = .ok (.lcmp, 1) := by decide +kernel
theorem dc_31_96 : decode cc_31 96 = .ok (.ifCond .ne (6), 3) := by decide +kernel
theorem dc_31_99 : decode cc_31 99 = .ok (.bipush 11, 2) := by decide +kernel
theorem dc_31_101 : decode cc_31 101 = .ok (.ireturn, 1) := by decide +kernel
theorem dc_31_102 : decode cc_31 102 = .ok (.lload_n 0, 1) := by decide +kernel
theorem dc_31_103 : decode cc_31 103 = .ok (.ldc 83, 2) := by decide +kernel
theorem dc_31_105 : decode cc_31 105 = .ok (.invokestatic 65, 3) := by decide +kernel
theorem dc_31_108 : decode cc_31 108 = .ok (.lcmp, 1) := by decide +kernel
theorem dc_31_109 : decode cc_31 109 = .ok (.ifCond .ne (8), 3) := by decide +kernel
theorem dc_31_112 : decode cc_31 112 = .ok (.bipush 12, 2) := by decide +kernel
theorem dc_31_114 : decode cc_31 114 = .ok (.goto (4), 3) := by decide +kernel
theorem dc_31_117 : decode cc_31 117 = .ok (.iconst 2, 1) := by decide +kernel
theorem dc_31_118 : decode cc_31 118 = .ok (.ireturn, 1) := by decide +kernel
theorem dc_32_0 : decode cc_32 0 = .ok (.aload_n 0, 1) := by decide +kernel
theorem dc_32_1 : decode cc_32 1 = .ok (.iconst 0, 1) := by decide +kernel
theorem dc_32_2 : decode cc_32 2 = .ok (.putfield 9, 3) := by decide +kernel
theorem dc_32_5 : decode cc_32 5 = .ok (.aload_n 0, 1) := by decide +kernel
theorem dc_32_6 : decode cc_32 6 = .ok (.iconst 0, 1) := by decide +kernel
theorem dc_32_7 : decode cc_32 7 = .ok (.putfield 18, 3) := by decide +kernel
theorem dc_32_10 : decode cc_32 10 = .ok (.aload_n 0, 1) := by decide +kernel
theorem dc_32_11 : decode cc_32 11 = .ok (.aload_n 0, 1) := by decide +kernel
theorem dc_32_12 : decode cc_32 12 = .ok (.getfield 21, 3) := by decide +kernel
theorem dc_32_15 : decode cc_32 15 = .ok (.aload_n 0, 1) := by decide +kernel
theorem dc_32_16 : decode cc_32 16 = .ok (.getfield 9, 3) := by decide +kernel
theorem dc_32_19 : decode cc_32 19 = .ok (.invokevirtual 25, 3) := by decide +kernel
theorem dc_32_22 : decode cc_32 22 = .ok (.putfield 15, 3) := by decide +kernel
theorem dc_32_25 : decode cc_32 25 = .ok (.return_, 1) := by decide +kernel
theorem dc_33_0 : decode cc_33 0 = .ok (.aload_n 0, 1) := by decide +kernel
theorem dc_33_1 : decode cc_33 1 = .ok (.getfield 15, 3) := by decide +kernel
theorem dc_33_4 : decode cc_33 4 = .ok (.ireturn, 1) := by decide +kernel
theorem dc_34_0 : decode cc_34 0 = .ok (.aload_n 0, 1) := by decide +kernel
theorem dc_34_1 : decode cc_34 1 = .ok (.getfield 21, 3) := by decide +kernel
theorem dc_34_4 : decode cc_34 4 = .ok (.aload_n 0, 1) := by decide +kernel
theorem dc_34_5 : decode cc_34 5 = .ok (.getfield 9, 3) := by decide +kernel
theorem dc_34_8 : decode cc_34 8 = .ok (.iconst 1, 1) := by decide +kernel
theorem dc_34_9 : decode cc_34 9 = .ok (.iadd, 1) := by decide +kernel
theorem dc_34_10 : decode cc_34 10 = .ok (.invokevirtual 25, 3) := by decide +kernel
theorem dc_34_13 : decode cc_34 13 = .ok (.ireturn, 1) := by decide +kernel
theorem dc_35_0 : decode cc_35 0 = .ok (.aload_n 0, 1) := by decide +kernel
theorem dc_35_1 : decode cc_35 1 = .ok (.getfield 15, 3) := by decide +kernel
theorem dc_35_4 : decode cc_35 4 = .ok (.iload_n 1, 1) := by decide +kernel
theorem dc_35_5 : decode cc_35 5 = .ok (.if_icmp .ne (7), 3) := by decide +kernel
theorem dc_35_8 : decode cc_35 8 = .ok (.iconst 1, 1) := by decide +kernel
theorem dc_35_9 : decode cc_35 9 = .ok (.goto (4), 3) := by decide +kernel
theorem dc_35_12 : decode cc_35 12 = .ok (.iconst 0, 1) := by decide +kernel
theorem dc_35_13 : decode cc_35 13 = .ok (.ireturn, 1) := by decide +kernel
theorem dc_36_0 : decode cc_36 0 = .ok (.iload_n 1, 1) := by decide +kernel
theorem dc_36_1 : decode cc_36 1 = .ok (.ifCond .ne (11), 3) := by decide +kernel
theorem dc_36_4 : decode cc_36 4 = .ok (.new 31, 3) := by decide +kernel
theorem dc_36_7 : decode cc_36 7 = .ok (.dup, 1) := by decide +kernel
theorem dc_36_8 : decode cc_36 8 = .ok (.invokespecial 33, 3) := by decide +kernel
theorem dc_36_11 : decode cc_36 11 = .ok (.athrow, 1) := by decide +kernel
theorem dc_36_12 : decode cc_36 12 = .ok (.return_, 1) := by decide +kernel
theorem dc_37_0 : decode cc_37 0 = .ok (.aload_n 0, 1) := by decide +kernel
theorem dc_37_1 : decode cc_37 1 = .ok (.getfield 15, 3) := by decide +kernel
theorem dc_37_4 : decode cc_37 4 = .ok (.lookupswitch (110) #[(8, 84), (9, 84), (10, 84), (40, 84), (41, 97), (91, 84), (93, 97), (123, 84), (125, 97)], 84) := by decide +kernel
theorem dc_37_88 : decode cc_37 88 = .ok (.aload_n 0, 1) := by decide +kernel
theorem dc_37_89 : decode cc_37 89 = .ok (.dup, 1) := by decide +kernel
theorem dc_37_90 : decode cc_37 90 = .ok (.getfield 18, 3) := by decide +kernel
theorem dc_37_93 : decode cc_37 93 = .ok (.iconst 1, 1) := by decide +kernel
theorem dc_37_94 : decode cc_37 94 = .ok (.iadd, 1) := by decide +kernel
theorem dc_37_95 : decode cc_37 95 = .ok (.putfield 18, 3) := by decide +kernel
theorem dc_37_98 : decode cc_37 98 = .ok (.goto (16), 3) := by decide +kernel
theorem dc_37_101 : decode cc_37 101 = .ok (.aload_n 0, 1) := by decide +kernel
theorem dc_37_102 : decode cc_37 102 = .ok (.dup, 1) := by decide +kernel
theorem dc_37_103 : decode cc_37 103 = .ok (.getfield 18, 3) := by decide +kernel
theorem dc_37_106 : decode cc_37 106 = .ok (.iconst 1, 1) := by decide +kernel
theorem dc_37_107 : decode cc_37 107 = .ok (.isub, 1) := by decide +kernel
theorem dc_37_108 : decode cc_37 108 = .ok (.putfield 18, 3) := by decide +kernel
theorem dc_37_111 : decode cc_37 111 = .ok (.goto (3), 3) := by decide +kernel
theorem dc_37_114 : decode cc_37 114 = .ok (.aload_n 0, 1) := by decide +kernel
theorem dc_37_115 : decode cc_37 115 = .ok (.getfield 18, 3) := by decide +kernel
theorem dc_37_118 : decode cc_37 118 = .ok (.bipush 8, 2) := by decide +kernel
theorem dc_37_120 : decode cc_37 120 = .ok (.if_icmp .le (11), 3) := by decide +kernel
theorem dc_37_123 : decode cc_37 123 = .ok (.new 31, 3) := by decide +kernel
theorem dc_37_126 : decode cc_37 126 = .ok (.dup, 1) := by decide +kernel
theorem dc_37_127 : decode cc_37 127 = .ok (.invokespecial 33, 3) := by decide +kernel
theorem dc_37_130 : decode cc_37 130 = .ok (.athrow, 1) := by decide +kernel
theorem dc_37_131 : decode cc_37 131 = .ok (.aload_n 0, 1) := by decide +kernel
theorem dc_37_132 : decode cc_37 132 = .ok (.dup, 1) := by decide +kernel
theorem dc_37_133 : decode cc_37 133 = .ok (.getfield 9, 3) := by decide +kernel
theorem dc_37_136 : decode cc_37 136 = .ok (.iconst 1, 1) := by decide +kernel
theorem dc_37_137 : decode cc_37 137 = .ok (.iadd, 1) := by decide +kernel
theorem dc_37_138 : decode cc_37 138 = .ok (.putfield 9, 3) := by decide +kernel
theorem dc_37_141 : decode cc_37 141 = .ok (.aload_n 0, 1) := by decide +kernel
theorem dc_37_142 : decode cc_37 142 = .ok (.aload_n 0, 1) := by decide +kernel
theorem dc_37_143 : decode cc_37 143 = .ok (.getfield 9, 3) := by decide +kernel
theorem dc_37_146 : decode cc_37 146 = .ok (.aload_n 0, 1) := by decide +kernel
theorem dc_37_147 : decode cc_37 147 = .ok (.getfield 21, 3) := by decide +kernel
theorem dc_37_150 : decode cc_37 150 = .ok (.getfield 34, 3) := by decide +kernel
theorem dc_37_153 : decode cc_37 153 = .ok (.if_icmp .ge (18), 3) := by decide +kernel
theorem dc_37_156 : decode cc_37 156 = .ok (.aload_n 0, 1) := by decide +kernel
theorem dc_37_157 : decode cc_37 157 = .ok (.getfield 21, 3) := by decide +kernel
theorem dc_37_160 : decode cc_37 160 = .ok (.getfield 37, 3) := by decide +kernel
theorem dc_37_163 : decode cc_37 163 = .ok (.aload_n 0, 1) := by decide +kernel
theorem dc_37_164 : decode cc_37 164 = .ok (.getfield 9, 3) := by decide +kernel
theorem dc_37_167 : decode cc_37 167 = .ok (.iaload, 1) := by decide +kernel
theorem dc_37_168 : decode cc_37 168 = .ok (.goto (4), 3) := by decide +kernel
theorem dc_37_171 : decode cc_37 171 = .ok (.iconst 0, 1) := by decide +kernel
theorem dc_37_172 : decode cc_37 172 = .ok (.putfield 15, 3) := by decide +kernel
theorem dc_37_175 : decode cc_37 175 = .ok (.aload_n 0, 1) := by decide +kernel
theorem dc_37_176 : decode cc_37 176 = .ok (.getfield 9, 3) := by decide +kernel
theorem dc_37_179 : decode cc_37 179 = .ok (.iconst 1, 1) := by decide +kernel
theorem dc_37_180 : decode cc_37 180 = .ok (.isub, 1) := by decide +kernel
theorem dc_37_181 : decode cc_37 181 = .ok (.ireturn, 1) := by decide +kernel
theorem dc_38_0 : decode cc_38 0 = .ok (.aload_n 0, 1) := by decide +kernel
theorem dc_38_1 : decode cc_38 1 = .ok (.aload_n 0, 1) := by decide +kernel
theorem dc_38_2 : decode cc_38 2 = .ok (.getfield 15, 3) := by decide +kernel
theorem dc_38_5 : decode cc_38 5 = .ok (.iload_n 1, 1) := by decide +kernel
theorem dc_38_6 : decode cc_38 6 = .ok (.if_icmp .ne (7), 3) := by decide +kernel
theorem dc_38_9 : decode cc_38 9 = .ok (.iconst 1, 1) := by decide +kernel
theorem dc_38_10 : decode cc_38 10 = .ok (.goto (4), 3) := by decide +kernel
theorem dc_38_13 : decode cc_38 13 = .ok (.iconst 0, 1) := by decide +kernel
theorem dc_38_14 : decode cc_38 14 = .ok (.invokevirtual 41, 3) := by decide +kernel
theorem dc_38_17 : decode cc_38 17 = .ok (.aload_n 0, 1) := by decide +kernel
theorem dc_38_18 : decode cc_38 18 = .ok (.invokevirtual 45, 3) := by decide +kernel
theorem dc_38_21 : decode cc_38 21 = .ok (.ireturn, 1) := by decide +kernel
theorem dc_39_0 : decode cc_39 0 = .ok (.aload_n 0, 1) := by decide +kernel
theorem dc_39_1 : decode cc_39 1 = .ok (.dup, 1) := by decide +kernel
theorem dc_39_2 : decode cc_39 2 = .ok (.getfield 18, 3) := by decide +kernel
theorem dc_39_5 : decode cc_39 5 = .ok (.iconst 1, 1) := by decide +kernel
theorem dc_39_6 : decode cc_39 6 = .ok (.isub, 1) := by decide +kernel
theorem dc_39_7 : decode cc_39 7 = .ok (.putfield 18, 3) := by decide +kernel
theorem dc_39_10 : decode cc_39 10 = .ok (.return_, 1) := by decide +kernel
theorem dc_40_0 : decode cc_40 0 = .ok (.aload_n 0, 1) := by decide +kernel
theorem dc_40_1 : decode cc_40 1 = .ok (.getfield 12, 3) := by decide +kernel
theorem dc_40_4 : decode cc_40 4 = .ok (.invokevirtual 60, 3) := by decide +kernel
theorem dc_40_7 : decode cc_40 7 = .ok (.aload_n 0, 1) := by decide +kernel
theorem dc_40_8 : decode cc_40 8 = .ok (.iconst 0, 1) := by decide +kernel
theorem dc_40_9 : decode cc_40 9 = .ok (.putfield 25, 3) := by decide +kernel
theorem dc_40_12 : decode cc_40 12 = .ok (.aload_n 0, 1) := by decide +kernel
theorem dc_40_13 : decode cc_40 13 = .ok (.iconst 0, 1) := by decide +kernel
theorem dc_40_14 : decode cc_40 14 = .ok (.putfield 50, 3) := by decide +kernel
theorem dc_40_17 : decode cc_40 17 = .ok (.aload_n 0, 1) := by decide +kernel
theorem dc_40_18 : decode cc_40 18 = .ok (.iconst 0, 1) := by decide +kernel
theorem dc_40_19 : decode cc_40 19 = .ok (.putfield 53, 3) := by decide +kernel
theorem dc_40_22 : decode cc_40 22 = .ok (.iconst 0, 1) := by decide +kernel
theorem dc_40_23 : decode cc_40 23 = .ok (.istore_n 1, 1) := by decide +kernel
theorem dc_40_24 : decode cc_40 24 = .ok (.iload_n 1, 1) := by decide +kernel
theorem dc_40_25 : decode cc_40 25 = .ok (.sipush 160, 3) := by decide +kernel
theorem dc_40_28 : decode cc_40 28 = .ok (.if_icmp .ge (23), 3) := by decide +kernel
theorem dc_40_31 : decode cc_40 31 = .ok (.aload_n 0, 1) := by decide +kernel
theorem dc_40_32 : decode cc_40 32 = .ok (.getfield 18, 3) := by decide +kernel
theorem dc_40_35 : decode cc_40 35 = .ok (.iload_n 1, 1) := by decide +kernel
theorem dc_40_36 : decode cc_40 36 = .ok (.iconst 0, 1) := by decide +kernel
theorem dc_40_37 : decode cc_40 37 = .ok (.iastore, 1) := by decide +kernel
theorem dc_40_38 : decode cc_40 38 = .ok (.aload_n 0, 1) := by decide +kernel
theorem dc_40_39 : decode cc_40 39 = .ok (.getfield 22, 3) := by decide +kernel
theorem dc_40_42 : decode cc_40 42 = .ok (.iload_n 1, 1) := by decide +kernel
theorem dc_40_43 : decode cc_40 43 = .ok (.iconst (-1), 1) := by decide +kernel
theorem dc_40_44 : decode cc_40 44 = .ok (.iastore, 1) := by decide +kernel
theorem dc_40_45 : decode cc_40 45 = .ok (.iinc 1 1, 3) := by decide +kernel
theorem dc_40_48 : decode cc_40 48 = .ok (.goto (-24), 3) := by decide +kernel
theorem dc_40_51 : decode cc_40 51 = .ok (.return_, 1) := by decide +kernel
theorem dc_41_0 : decode cc_41 0 = .ok (.aload_n 0, 1) := by decide +kernel
theorem dc_41_1 : decode cc_41 1 = .ok (.getfield 53, 3) := by decide +kernel
theorem dc_41_4 : decode cc_41 4 = .ok (.ireturn, 1) := by decide +kernel
theorem dc_42_0 : decode cc_42 0 = .ok (.aload_n 0, 1) := by decide +kernel
theorem dc_42_1 : decode cc_42 1 = .ok (.dup, 1) := by decide +kernel
theorem dc_42_2 : decode cc_42 2 = .ok (.getfield 53, 3) := by decide +kernel
theorem dc_42_5 : decode cc_42 5 = .ok (.iconst 1, 1) := by decide +kernel
theorem dc_42_6 : decode cc_42 6 = .ok (.iadd, 1) := by decide +kernel
theorem dc_42_7 : decode cc_42 7 = .ok (.putfield 53, 3) := by decide +kernel
theorem dc_42_10 : decode cc_42 10 = .ok (.aload_n 0, 1) := by decide +kernel
theorem dc_42_11 : decode cc_42 11 = .ok (.getfield 53, 3) := by decide +kernel
theorem dc_42_14 : decode cc_42 14 = .ok (.iconst 1, 1) := by decide +kernel
theorem dc_42_15 : decode cc_42 15 = .ok (.isub, 1) := by decide +kernel
theorem dc_42_16 : decode cc_42 16 = .ok (.ireturn, 1) := by decide +kernel
theorem dc_43_0 : decode cc_43 0 = .ok (.aload_n 0, 1) := by decide +kernel
theorem dc_43_1 : decode cc_43 1 = .ok (.getfield 50, 3) := by decide +kernel
theorem dc_43_4 : decode cc_43 4 = .ok (.bipush 8, 2) := by decide +kernel
theorem dc_43_6 : decode cc_43 6 = .ok (.if_icmp .gt (23), 3) := by decide +kernel
theorem dc_43_9 : decode cc_43 9 = .ok (.aload_n 0, 1) := by decide +kernel
theorem dc_43_10 : decode cc_43 10 = .ok (.dup, 1) := by decide +kernel
theorem dc_43_11 : decode cc_43 11 = .ok (.getfield 50, 3) := by decide +kernel
theorem dc_43_14 : decode cc_43 14 = .ok (.iconst 1, 1) := by decide +kernel
theorem dc_43_15 : decode cc_43 15 = .ok (.iadd, 1) := by decide +kernel
theorem dc_43_16 : decode cc_43 16 = .ok (.putfield 50, 3) := by decide +kernel
theorem dc_43_19 : decode cc_43 19 = .ok (.aload_n 0, 1) := by decide +kernel
theorem dc_43_20 : decode cc_43 20 = .ok (.getfield 47, 3) := by decide +kernel
theorem dc_43_23 : decode cc_43 23 = .ok (.aload_n 0, 1) := by decide +kernel
theorem dc_43_24 : decode cc_43 24 = .ok (.getfield 50, 3) := by decide +kernel
theorem dc_43_27 : decode cc_43 27 = .ok (.iload_n 1, 1) := by decide +kernel
theorem dc_43_28 : decode cc_43 28 = .ok (.iastore, 1) := by decide +kernel
theorem dc_43_29 : decode cc_43 29 = .ok (.return_, 1) := by decide +kernel
theorem dc_44_0 : decode cc_44 0 = .ok (.aload_n 0, 1) := by decide +kernel
theorem dc_44_1 : decode cc_44 1 = .ok (.getfield 50, 3) := by decide +kernel
theorem dc_44_4 : decode cc_44 4 = .ok (.ifCond .le (13), 3) := by decide +kernel
theorem dc_44_7 : decode cc_44 7 = .ok (.aload_n 0, 1) := by decide +kernel
theorem dc_44_8 : decode cc_44 8 = .ok (.dup, 1) := by decide +kernel
theorem dc_44_9 : decode cc_44 9 = .ok (.getfield 50, 3) := by decide +kernel
theorem dc_44_12 : decode cc_44 12 = .ok (.iconst 1, 1) := by decide +kernel
theorem dc_44_13 : decode cc_44 13 = .ok (.isub, 1) := by decide +kernel
theorem dc_44_14 : decode cc_44 14 = .ok (.putfield 50, 3) := by decide +kernel
theorem dc_44_17 : decode cc_44 17 = .ok (.return_, 1) := by decide +kernel
theorem dc_45_0 : decode cc_45 0 = .ok (.iconst (-1), 1) := by decide +kernel
theorem dc_45_1 : decode cc_45 1 = .ok (.istore_n 2, 1) := by decide +kernel
theorem dc_45_2 : decode cc_45 2 = .ok (.iconst 0, 1) := by decide +kernel
theorem dc_45_3 : decode cc_45 3 = .ok (.istore_n 3, 1) := by decide +kernel
theorem dc_45_4 : decode cc_45 4 = .ok (.iload_n 3, 1) := by decide +kernel
theorem dc_45_5 : decode cc_45 5 = .ok (.aload_n 0, 1) := by decide +kernel
theorem dc_45_6 : decode cc_45 6 = .ok (.getfield 25, 3) := by decide +kernel
theorem dc_45_9 : decode cc_45 9 = .ok (.if_icmp .ge (115), 3) := by decide +kernel
theorem dc_45_12 : decode cc_45 12 = .ok (.aload_n 0, 1) := by decide +kernel
theorem dc_45_13 : decode cc_45 13 = .ok (.getfield 32, 3) := by decide +kernel
theorem dc_45_16 : decode cc_45 16 = .ok (.iload_n 3, 1) := by decide +kernel
theorem dc_45_17 : decode cc_45 17 = .ok (.iaload, 1) := by decide +kernel
theorem dc_45_18 : decode cc_45 18 = .ok (.aload_n 0, 1) := by decide +kernel
theorem dc_45_19 : decode cc_45 19 = .ok (.getfield 50, 3) := by decide +kernel
theorem dc_45_22 : decode cc_45 22 = .ok (.if_icmp .gt (27), 3) := by decide +kernel
theorem dc_45_25 : decode cc_45 25 = .ok (.aload_n 0, 1) := by decide +kernel
theorem dc_45_26 : decode cc_45 26 = .ok (.getfield 47, 3) := by decide +kernel
theorem dc_45_29 : decode cc_45 29 = .ok (.aload_n 0, 1) := by decide +kernel
theorem dc_45_30 : decode cc_45 30 = .ok (.getfield 32, 3) := by decide +kernel
theorem dc_45_33 : decode cc_45 33 = .ok (.iload_n 3, 1) := by decide +kernel
theorem dc_45_34 : decode cc_45 34 = .ok (.iaload, 1) := by decide +kernel
theorem dc_45_35 : decode cc_45 35 = .ok (.iaload, 1) := by decide +kernel
theorem dc_45_36 : decode cc_45 36 = .ok (.aload_n 0, 1) := by decide +kernel
theorem dc_45_37 : decode cc_45 37 = .ok (.getfield 44, 3) := by decide +kernel
theorem dc_45_40 : decode cc_45 40 = .ok (.iload_n 3, 1) := by decide +kernel
theorem dc_45_41 : decode cc_45 41 = .ok (.iaload, 1) := by decide +kernel
theorem dc_45_42 : decode cc_45 42 = .ok (.if_icmp .ne (7), 3) := by decide +kernel
theorem dc_45_45 : decode cc_45 45 = .ok (.iconst 1, 1) := by decide +kernel
theorem dc_45_46 : decode cc_45 46 = .ok (.goto (4), 3) := by decide +kernel
theorem dc_45_49 : decode cc_45 49 = .ok (.iconst 0, 1) := by decide +kernel
theorem dc_45_50 : decode cc_45 50 = .ok (.istore 4, 2) := by decide +kernel
theorem dc_45_52 : decode cc_45 52 = .ok (.iload_n 2, 1) := by decide +kernel
theorem dc_45_53 : decode cc_45 53 = .ok (.iconst (-1), 1) := by decide +kernel
theorem dc_45_54 : decode cc_45 54 = .ok (.if_icmp .eq (18), 3) := by decide +kernel
theorem dc_45_57 : decode cc_45 57 = .ok (.aload_n 0, 1) := by decide +kernel
theorem dc_45_58 : decode cc_45 58 = .ok (.getfield 32, 3) := by decide +kernel
theorem dc_45_61 : decode cc_45 61 = .ok (.iload_n 3, 1) := by decide +kernel
theorem dc_45_62 : decode cc_45 62 = .ok (.iaload, 1) := by decide +kernel
theorem dc_45_63 : decode cc_45 63 = .ok (.aload_n 0, 1) := by decide +kernel
theorem dc_45_64 : decode cc_45 64 = .ok (.getfield 32, 3) := by decide +kernel
theorem dc_45_67 : decode cc_45 67 = .ok (.iload_n 2, 1) := by decide +kernel
theorem dc_45_68 : decode cc_45 68 = .ok (.iaload, 1) := by decide +kernel
theorem dc_45_69 : decode cc_45 69 = .ok (.if_icmp .le (7), 3) := by decide +kernel
theorem dc_45_72 : decode cc_45 72 = .ok (.iconst 1, 1) := by decide +kernel
theorem dc_45_73 : decode cc_45 73 = .ok (.goto (4), 3) := by decide +kernel
theorem dc_45_76 : decode cc_45 76 = .ok (.iconst 0, 1) := by decide +kernel
theorem dc_45_77 : decode cc_45 77 = .ok (.istore 5, 2) := by decide +kernel
theorem dc_45_79 : decode cc_45 79 = .ok (.iload 4, 2) := by decide +kernel
theorem dc_45_81 : decode cc_45 81 = .ok (.ifCond .eq (37), 3) := by decide +kernel
theorem dc_45_84 : decode cc_45 84 = .ok (.iload 5, 2) := by decide +kernel
theorem dc_45_86 : decode cc_45 86 = .ok (.ifCond .eq (32), 3) := by decide +kernel
theorem dc_45_89 : decode cc_45 89 = .ok (.aload_n 0, 1) := by decide +kernel
theorem dc_45_90 : decode cc_45 90 = .ok (.getfield 56, 3) := by decide +kernel
theorem dc_45_93 : decode cc_45 93 = .ok (.getfield 63, 3) := by decide +kernel
theorem dc_45_96 : decode cc_45 96 = .ok (.aload_n 0, 1) := by decide +kernel
theorem dc_45_97 : decode cc_45 97 = .ok (.getfield 29, 3) := by decide +kernel
theorem dc_45_100 : decode cc_45 100 = .ok (.iload_n 3, 1) := by decide +kernel
theorem dc_45_101 : decode cc_45 101 = .ok (.iaload, 1) := by decide +kernel
theorem dc_45_102 : decode cc_45 102 = .ok (.laload, 1) := by decide +kernel
theorem dc_45_103 : decode cc_45 103 = .ok (.aload_n 0, 1) := by decide +kernel
theorem dc_45_104 : decode cc_45 104 = .ok (.getfield 56, 3) := by decide +kernel
theorem dc_45_107 : decode cc_45 107 = .ok (.getfield 63, 3) := by decide +kernel
theorem dc_45_110 : decode cc_45 110 = .ok (.iload_n 1, 1) := by decide +kernel
theorem dc_45_111 : decode cc_45 111 = .ok (.laload, 1) := by decide +kernel
theorem dc_45_112 : decode cc_45 112 = .ok (.lcmp, 1) := by decide +kernel
theorem dc_45_113 : decode cc_45 113 = .ok (.ifCond .ne (5), 3) := by decide +kernel
theorem dc_45_116 : decode cc_45 116 = .ok (.iload_n 3, 1) := by decide +kernel
theorem dc_45_117 : decode cc_45 117 = .ok (.istore_n 2, 1) := by decide +kernel
theorem dc_45_118 : decode cc_45 118 = .ok (.iinc 3 1, 3) := by decide +kernel
theorem dc_45_121 : decode cc_45 121 = .ok (.goto (-117), 3) := by decide +kernel
theorem dc_45_124 : decode cc_45 124 = .ok (.iload_n 2, 1) := by decide +kernel
theorem dc_45_125 : decode cc_45 125 = .ok (.ireturn, 1) := by decide +kernel
theorem dc_46_0 : decode cc_46 0 = .ok (.aload_n 0, 1) := by decide +kernel
theorem dc_46_1 : decode cc_46 1 = .ok (.getfield 56, 3) := by decide +kernel
theorem dc_46_4 : decode cc_46 4 = .ok (.iload_n 1, 1) := by decide +kernel
theorem dc_46_5 : decode cc_46 5 = .ok (.invokevirtual 69, 3) := by decide +kernel
theorem dc_46_8 : decode cc_46 8 = .ok (.istore_n 2, 1) := by decide +kernel
theorem dc_46_9 : decode cc_46 9 = .ok (.iload_n 2, 1) := by decide +kernel
theorem dc_46_10 : decode cc_46 10 = .ok (.iconst 2, 1) := by decide +kernel
theorem dc_46_11 : decode cc_46 11 = .ok (.if_icmp .eq (26), 3) := by decide +kernel
theorem dc_46_14 : decode cc_46 14 = .ok (.iload_n 2, 1) := by decide +kernel
theorem dc_46_15 : decode cc_46 15 = .ok (.iconst 5, 1) := by decide +kernel
theorem dc_46_16 : decode cc_46 16 = .ok (.if_icmp .eq (15), 3) := by decide +kernel
theorem dc_46_19 : decode cc_46 19 = .ok (.iload_n 2, 1) := by decide +kernel
theorem dc_46_20 : decode cc_46 20 = .ok (.bipush 6, 2) := by decide +kernel
theorem dc_46_22 : decode cc_46 22 = .ok (.if_icmp .eq (9), 3) := by decide +kernel
theorem dc_46_25 : decode cc_46 25 = .ok (.iload_n 2, 1) := by decide +kernel
theorem dc_46_26 : decode cc_46 26 = .ok (.bipush 7, 2) := by decide +kernel
theorem dc_46_28 : decode cc_46 28 = .ok (.if_icmp .ne (7), 3) := by decide +kernel
theorem dc_46_31 : decode cc_46 31 = .ok (.iconst 1, 1) := by decide +kernel
theorem dc_46_32 : decode cc_46 32 = .ok (.goto (4), 3) := by decide +kernel
theorem dc_46_35 : decode cc_46 35 = .ok (.iconst 0, 1) := by decide +kernel
theorem dc_46_36 : decode cc_46 36 = .ok (.ireturn, 1) := by decide +kernel
theorem dc_46_37 : decode cc_46 37 = .ok (.aload_n 0, 1) := by decide +kernel
theorem dc_46_38 : decode cc_46 38 = .ok (.iload_n 1, 1) := by decide +kernel
theorem dc_46_39 : decode cc_46 39 = .ok (.invokevirtual 73, 3) := by decide +kernel
theorem dc_46_42 : decode cc_46 42 = .ok (.istore_n 3, 1) := by decide +kernel
theorem dc_46_43 : decode cc_46 43 = .ok (.iload_n 3, 1) := by decide +kernel
theorem dc_46_44 : decode cc_46 44 = .ok (.iconst (-1), 1) := by decide +kernel
theorem dc_46_45 : decode cc_46 45 = .ok (.if_icmp .eq (17), 3) := by decide +kernel
theorem dc_46_48 : decode cc_46 48 = .ok (.aload_n 0, 1) := by decide +kernel
theorem dc_46_49 : decode cc_46 49 = .ok (.getfield 41, 3) := by decide +kernel
theorem dc_46_52 : decode cc_46 52 = .ok (.iload_n 3, 1) := by decide +kernel
theorem dc_46_53 : decode cc_46 53 = .ok (.iaload, 1) := by decide +kernel
theorem dc_46_54 : decode cc_46 54 = .ok (.iconst 1, 1) := by decide +kernel
theorem dc_46_55 : decode cc_46 55 = .ok (.if_icmp .ne (7), 3) := by decide +kernel
theorem dc_46_58 : decode cc_46 58 = .ok (.iconst 1, 1) := by decide +kernel
theorem dc_46_59 : decode cc_46 59 = .ok (.goto (4), 3) := by decide +kernel
theorem dc_46_62 : decode cc_46 62 = .ok (.iconst 0, 1) := by decide +kernel
theorem dc_46_63 : decode cc_46 63 = .ok (.ireturn, 1) := by decide +kernel
theorem dc_47_0 : decode cc_47 0 = .ok (.aload_n 0, 1) := by decide +kernel
theorem dc_47_1 : decode cc_47 1 = .ok (.iload_n 1, 1) := by decide +kernel
theorem dc_47_2 : decode cc_47 2 = .ok (.invokevirtual 73, 3) := by decide +kernel
theorem dc_47_5 : decode cc_47 5 = .ok (.istore_n 2, 1) := by decide +kernel
theorem dc_47_6 : decode cc_47 6 = .ok (.iload_n 2, 1) := by decide +kernel
theorem dc_47_7 : decode cc_47 7 = .ok (.iconst (-1), 1) := by decide +kernel
theorem dc_47_8 : decode cc_47 8 = .ok (.if_icmp .eq (17), 3) := by decide +kernel
theorem dc_47_11 : decode cc_47 11 = .ok (.aload_n 0, 1) := by decide +kernel
theorem dc_47_12 : decode cc_47 12 = .ok (.getfield 41, 3) := by decide +kernel
theorem dc_47_15 : decode cc_47 15 = .ok (.iload_n 2, 1) := by decide +kernel
theorem dc_47_16 : decode cc_47 16 = .ok (.iaload, 1) := by decide +kernel
theorem dc_47_17 : decode cc_47 17 = .ok (.iconst 1, 1) := by decide +kernel
theorem dc_47_18 : decode cc_47 18 = .ok (.if_icmp .eq (7), 3) := by decide +kernel
theorem dc_47_21 : decode cc_47 21 = .ok (.iconst 1, 1) := by decide +kernel
theorem dc_47_22 : decode cc_47 22 = .ok (.goto (4), 3) := by decide +kernel
theorem dc_47_25 : decode cc_47 25 = .ok (.iconst 0, 1) := by decide +kernel
theorem dc_47_26 : decode cc_47 26 = .ok (.ireturn, 1) := by decide +kernel
theorem dc_48_0 : decode cc_48 0 = .ok (.aload_n 0, 1) := by decide +kernel
theorem dc_48_1 : decode cc_48 1 = .ok (.iload_n 1, 1) := by decide +kernel
theorem dc_48_2 : decode cc_48 2 = .ok (.invokevirtual 73, 3) := by decide +kernel
theorem dc_48_5 : decode cc_48 5 = .ok (.istore_n 2, 1) := by decide +kernel
theorem dc_48_6 : decode cc_48 6 = .ok (.iload_n 2, 1) := by decide +kernel
theorem dc_48_7 : decode cc_48 7 = .ok (.iconst (-1), 1) := by decide +kernel
theorem dc_48_8 : decode cc_48 8 = .ok (.if_icmp .eq (16), 3) := by decide +kernel
theorem dc_48_11 : decode cc_48 11 = .ok (.aload_n 0, 1) := by decide +kernel
theorem dc_48_12 : decode cc_48 12 = .ok (.getfield 32, 3) := by decide +kernel
theorem dc_48_15 : decode cc_48 15 = .ok (.iload_n 2, 1) := by decide +kernel
theorem dc_48_16 : decode cc_48 16 = .ok (.iaload, 1) := by decide +kernel
theorem dc_48_17 : decode cc_48 17 = .ok (.aload_n 0, 1) := by decide +kernel
theorem dc_48_18 : decode cc_48 18 = .ok (.getfield 50, 3) := by decide +kernel
theorem dc_48_21 : decode cc_48 21 = .ok (.if_icmp .ge (7), 3) := by decide +kernel
theorem dc_48_24 : decode cc_48 24 = .ok (.iconst 1, 1) := by decide +kernel
theorem dc_48_25 : decode cc_48 25 = .ok (.goto (4), 3) := by decide +kernel
theorem dc_48_28 : decode cc_48 28 = .ok (.iconst 0, 1) := by decide +kernel
theorem dc_48_29 : decode cc_48 29 = .ok (.ireturn, 1) := by decide +kernel
theorem dc_49_0 : decode cc_49 0 = .ok (.aload_n 0, 1) := by decide +kernel
theorem dc_49_1 : decode cc_49 1 = .ok (.iload_n 1, 1) := by decide +kernel
theorem dc_49_2 : decode cc_49 2 = .ok (.invokevirtual 73, 3) := by decide +kernel
theorem dc_49_5 : decode cc_49 5 = .ok (.istore_n 2, 1) := by decide +kernel
theorem dc_49_6 : decode cc_49 6 = .ok (.iload_n 2, 1) := by decide +kernel
theorem dc_49_7 : decode cc_49 7 = .ok (.iconst (-1), 1) := by decide +kernel
theorem dc_49_8 : decode cc_49 8 = .ok (.if_icmp .eq (31), 3) := by decide +kernel
theorem dc_49_11 : decode cc_49 11 = .ok (.aload_n 0, 1) := by decide +kernel
theorem dc_49_12 : decode cc_49 12 = .ok (.getfield 18, 3) := by decide +kernel
theorem dc_49_15 : decode cc_49 15 = .ok (.iload_n 1, 1) := by decide +kernel
theorem dc_49_16 : decode cc_49 16 = .ok (.aload_n 0, 1) := by decide +kernel
theorem dc_49_17 : decode cc_49 17 = .ok (.getfield 41, 3) := by decide +kernel
theorem dc_49_20 : decode cc_49 20 = .ok (.iload_n 2, 1) := by decide +kernel
theorem dc_49_21 : decode cc_49 21 = .ok (.iaload, 1) := by decide +kernel
theorem dc_49_22 : decode cc_49 22 = .ok (.iconst 1, 1) := by decide +kernel
theorem dc_49_23 : decode cc_49 23 = .ok (.if_icmp .ne (7), 3) := by decide +kernel
theorem dc_49_26 : decode cc_49 26 = .ok (.iconst 1, 1) := by decide +kernel
theorem dc_49_27 : decode cc_49 27 = .ok (.goto (4), 3) := by decide +kernel
theorem dc_49_30 : decode cc_49 30 = .ok (.iconst 2, 1) := by decide +kernel
theorem dc_49_31 : decode cc_49 31 = .ok (.iastore, 1) := by decide +kernel
theorem dc_49_32 : decode cc_49 32 = .ok (.aload_n 0, 1) := by decide +kernel
theorem dc_49_33 : decode cc_49 33 = .ok (.getfield 22, 3) := by decide +kernel
theorem dc_49_36 : decode cc_49 36 = .ok (.iload_n 1, 1) := by decide +kernel
theorem dc_49_37 : decode cc_49 37 = .ok (.iload_n 2, 1) := by decide +kernel
theorem dc_49_38 : decode cc_49 38 = .ok (.iastore, 1) := by decide +kernel
theorem dc_49_39 : decode cc_49 39 = .ok (.return_, 1) := by decide +kernel
theorem dc_50_0 : decode cc_50 0 = .ok (.aload_n 0, 1) := by decide +kernel
theorem dc_50_1 : decode cc_50 1 = .ok (.getfield 25, 3) := by decide +kernel
theorem dc_50_4 : decode cc_50 4 = .ok (.bipush 79, 2) := by decide +kernel
theorem dc_50_6 : decode cc_50 6 = .ok (.invokestatic 76, 3) := by decide +kernel
theorem dc_50_9 : decode cc_50 9 = .ok (.istore 4, 2) := by decide +kernel
theorem dc_50_11 : decode cc_50 11 = .ok (.aload_n 0, 1) := by decide +kernel
theorem dc_50_12 : decode cc_50 12 = .ok (.getfield 29, 3) := by decide +kernel
theorem dc_50_15 : decode cc_50 15 = .ok (.iload 4, 2) := by decide +kernel
theorem dc_50_17 : decode cc_50 17 = .ok (.iload_n 1, 1) := by decide +kernel
theorem dc_50_18 : decode cc_50 18 = .ok (.iastore, 1) := by decide +kernel
theorem dc_50_19 : decode cc_50 19 = .ok (.aload_n 0, 1) := by decide +kernel
theorem dc_50_20 : decode cc_50 20 = .ok (.getfield 44, 3) := by decide +kernel
theorem dc_50_23 : decode cc_50 23 = .ok (.iload 4, 2) := by decide +kernel
theorem dc_50_25 : decode cc_50 25 = .ok (.aload_n 0, 1) := by decide +kernel
theorem dc_50_26 : decode cc_50 26 = .ok (.getfield 47, 3) := by decide +kernel
theorem dc_50_29 : decode cc_50 29 = .ok (.aload_n 0, 1) := by decide +kernel
theorem dc_50_30 : decode cc_50 30 = .ok (.getfield 50, 3) := by decide +kernel
theorem dc_50_33 : decode cc_50 33 = .ok (.iaload, 1) := by decide +kernel
theorem dc_50_34 : decode cc_50 34 = .ok (.iastore, 1) := by decide +kernel
theorem dc_50_35 : decode cc_50 35 = .ok (.aload_n 0, 1) := by decide +kernel
theorem dc_50_36 : decode cc_50 36 = .ok (.getfield 32, 3) := by decide +kernel
theorem dc_50_39 : decode cc_50 39 = .ok (.iload 4, 2) := by decide +kernel
theorem dc_50_41 : decode cc_50 41 = .ok (.aload_n 0, 1) := by decide +kernel
theorem dc_50_42 : decode cc_50 42 = .ok (.getfield 50, 3) := by decide +kernel
theorem dc_50_45 : decode cc_50 45 = .ok (.iastore, 1) := by decide +kernel
theorem dc_50_46 : decode cc_50 46 = .ok (.aload_n 0, 1) := by decide +kernel
theorem dc_50_47 : decode cc_50 47 = .ok (.getfield 35, 3) := by decide +kernel
theorem dc_50_50 : decode cc_50 50 = .ok (.iload 4, 2) := by decide +kernel
theorem dc_50_52 : decode cc_50 52 = .ok (.iload_n 2, 1) := by decide +kernel
theorem dc_50_53 : decode cc_50 53 = .ok (.iastore, 1) := by decide +kernel
theorem dc_50_54 : decode cc_50 54 = .ok (.aload_n 0, 1) := by decide +kernel
theorem dc_50_55 : decode cc_50 55 = .ok (.getfield 38, 3) := by decide +kernel
theorem dc_50_58 : decode cc_50 58 = .ok (.iload 4, 2) := by decide +kernel
theorem dc_50_60 : decode cc_50 60 = .ok (.aload_n 0, 1) := by decide +kernel
theorem dc_50_61 : decode cc_50 61 = .ok (.getfield 12, 3) := by decide +kernel
theorem dc_50_64 : decode cc_50 64 = .ok (.getfield 82, 3) := by decide +kernel
theorem dc_50_67 : decode cc_50 67 = .ok (.iastore, 1) := by decide +kernel
theorem dc_50_68 : decode cc_50 68 = .ok (.aload_n 0, 1) := by decide +kernel
theorem dc_50_69 : decode cc_50 69 = .ok (.getfield 41, 3) := by decide +kernel
theorem dc_50_72 : decode cc_50 72 = .ok (.iload 4, 2) := by decide +kernel
theorem dc_50_74 : decode cc_50 74 = .ok (.aload_n 0, 1) := by decide +kernel
theorem dc_50_75 : decode cc_50 75 = .ok (.iload_n 2, 1) := by decide +kernel
theorem dc_50_76 : decode cc_50 76 = .ok (.iload_n 3, 1) := by decide +kernel
theorem dc_50_77 : decode cc_50 77 = .ok (.invokevirtual 85, 3) := by decide +kernel
theorem dc_50_80 : decode cc_50 80 = .ok (.iastore, 1) := by decide +kernel
theorem dc_50_81 : decode cc_50 81 = .ok (.aload_n 0, 1) := by decide +kernel
theorem dc_50_82 : decode cc_50 82 = .ok (.iload 4, 2) := by decide +kernel
theorem dc_50_84 : decode cc_50 84 = .ok (.iconst 1, 1) := by decide +kernel
theorem dc_50_85 : decode cc_50 85 = .ok (.iadd, 1) := by decide +kernel
theorem dc_50_86 : decode cc_50 86 = .ok (.putfield 25, 3) := by decide +kernel
theorem dc_50_89 : decode cc_50 89 = .ok (.aload_n 0, 1) := by decide +kernel
theorem dc_50_90 : decode cc_50 90 = .ok (.getfield 18, 3) := by decide +kernel
theorem dc_50_93 : decode cc_50 93 = .ok (.iload_n 1, 1) := by decide +kernel
theorem dc_50_94 : decode cc_50 94 = .ok (.iload_n 3, 1) := by decide +kernel
theorem dc_50_95 : decode cc_50 95 = .ok (.ifCond .eq (7), 3) := by decide +kernel
theorem dc_50_98 : decode cc_50 98 = .ok (.iconst 3, 1) := by decide +kernel
theorem dc_50_99 : decode cc_50 99 = .ok (.goto (4), 3) := by decide +kernel
theorem dc_50_102 : decode cc_50 102 = .ok (.iconst 4, 1) := by decide +kernel
theorem dc_50_103 : decode cc_50 103 = .ok (.iastore, 1) := by decide +kernel
theorem dc_50_104 : decode cc_50 104 = .ok (.aload_n 0, 1) := by decide +kernel
theorem dc_50_105 : decode cc_50 105 = .ok (.getfield 22, 3) := by decide +kernel
theorem dc_50_108 : decode cc_50 108 = .ok (.iload_n 1, 1) := by decide +kernel
theorem dc_50_109 : decode cc_50 109 = .ok (.iload 4, 2) := by decide +kernel
theorem dc_50_111 : decode cc_50 111 = .ok (.iastore, 1) := by decide +kernel
theorem dc_50_112 : decode cc_50 112 = .ok (.iload 4, 2) := by decide +kernel
theorem dc_50_114 : decode cc_50 114 = .ok (.ireturn, 1) := by decide +kernel
theorem dc_51_0 : decode cc_51 0 = .ok (.iload_n 2, 1) := by decide +kernel
theorem dc_51_1 : decode cc_51 1 = .ok (.ifCond .eq (5), 3) := by decide +kernel
theorem dc_51_4 : decode cc_51 4 = .ok (.iconst 1, 1) := by decide +kernel
theorem dc_51_5 : decode cc_51 5 = .ok (.ireturn, 1) := by decide +kernel
theorem dc_51_6 : decode cc_51 6 = .ok (.aload_n 0, 1) := by decide +kernel
theorem dc_51_7 : decode cc_51 7 = .ok (.getfield 12, 3) := by decide +kernel
theorem dc_51_10 : decode cc_51 10 = .ok (.iload_n 1, 1) := by decide +kernel
theorem dc_51_11 : decode cc_51 11 = .ok (.invokevirtual 89, 3) := by decide +kernel
theorem dc_51_14 : decode cc_51 14 = .ok (.bipush 40, 2) := by decide +kernel
theorem dc_51_16 : decode cc_51 16 = .ok (.if_icmp .ne (7), 3) := by decide +kernel
theorem dc_51_19 : decode cc_51 19 = .ok (.iconst 2, 1) := by decide +kernel
theorem dc_51_20 : decode cc_51 20 = .ok (.goto (4), 3) := by decide +kernel
theorem dc_51_23 : decode cc_51 23 = .ok (.iconst 0, 1) := by decide +kernel
theorem dc_51_24 : decode cc_51 24 = .ok (.ireturn, 1) := by decide +kernel
theorem dc_52_0 : decode cc_52 0 = .ok (.aload_n 0, 1) := by decide +kernel
theorem dc_52_1 : decode cc_52 1 = .ok (.getfield 9, 3) := by decide +kernel
theorem dc_52_4 : decode cc_52 4 = .ok (.aload_n 0, 1) := by decide +kernel
theorem dc_52_5 : decode cc_52 5 = .ok (.getfield 19, 3) := by decide +kernel
theorem dc_52_8 : decode cc_52 8 = .ok (.aload_n 0, 1) := by decide +kernel
theorem dc_52_9 : decode cc_52 9 = .ok (.getfield 9, 3) := by decide +kernel
theorem dc_52_12 : decode cc_52 12 = .ok (.getfield 30, 3) := by decide +kernel
theorem dc_52_15 : decode cc_52 15 = .ok (.invokevirtual 36, 3) := by decide +kernel
theorem dc_52_18 : decode cc_52 18 = .ok (.invokevirtual 40, 3) := by decide +kernel
theorem dc_52_21 : decode cc_52 21 = .ok (.aload_n 0, 1) := by decide +kernel
theorem dc_52_22 : decode cc_52 22 = .ok (.getfield 9, 3) := by decide +kernel
theorem dc_52_25 : decode cc_52 25 = .ok (.invokevirtual 44, 3) := by decide +kernel
theorem dc_52_28 : decode cc_52 28 = .ok (.istore_n 1, 1) := by decide +kernel
theorem dc_52_29 : decode cc_52 29 = .ok (.aload_n 0, 1) := by decide +kernel
theorem dc_52_30 : decode cc_52 30 = .ok (.getfield 15, 3) := by decide +kernel
theorem dc_52_33 : decode cc_52 33 = .ok (.iload_n 1, 1) := by decide +kernel
theorem dc_52_34 : decode cc_52 34 = .ok (.invokevirtual 48, 3) := by decide +kernel
theorem dc_52_37 : decode cc_52 37 = .ok (.iconst 2, 1) := by decide +kernel
theorem dc_52_38 : decode cc_52 38 = .ok (.if_icmp .ne (11), 3) := by decide +kernel
theorem dc_52_41 : decode cc_52 41 = .ok (.aload_n 0, 1) := by decide +kernel
theorem dc_52_42 : decode cc_52 42 = .ok (.getfield 19, 3) := by decide +kernel
theorem dc_52_45 : decode cc_52 45 = .ok (.iload_n 1, 1) := by decide +kernel
theorem dc_52_46 : decode cc_52 46 = .ok (.invokevirtual 54, 3) := by decide +kernel
theorem dc_52_49 : decode cc_52 49 = .ok (.iload_n 1, 1) := by decide +kernel
theorem dc_52_50 : decode cc_52 50 = .ok (.ireturn, 1) := by decide +kernel
theorem dc_53_0 : decode cc_53 0 = .ok (.aload_n 0, 1) := by decide +kernel
theorem dc_53_1 : decode cc_53 1 = .ok (.getfield 15, 3) := by decide +kernel
theorem dc_53_4 : decode cc_53 4 = .ok (.iload_n 1, 1) := by decide +kernel
theorem dc_53_5 : decode cc_53 5 = .ok (.invokevirtual 48, 3) := by decide +kernel
theorem dc_53_8 : decode cc_53 8 = .ok (.tableswitch (64) (5) (7) #[28, 40, 52], 28) := by decide +kernel
theorem dc_53_36 : decode cc_53 36 = .ok (.aload_n 0, 1) := by decide +kernel
theorem dc_53_37 : decode cc_53 37 = .ok (.getfield 29, 3) := by decide +kernel
theorem dc_53_40 : decode cc_53 40 = .ok (.bipush 105, 2) := by decide +kernel
theorem dc_53_42 : decode cc_53 42 = .ok (.invokevirtual 58, 3) := by decide +kernel
theorem dc_53_45 : decode cc_53 45 = .ok (.goto (52), 3) := by decide +kernel
theorem dc_53_48 : decode cc_53 48 = .ok (.aload_n 0, 1) := by decide +kernel
theorem dc_53_49 : decode cc_53 49 = .ok (.getfield 29, 3) := by decide +kernel
theorem dc_53_52 : decode cc_53 52 = .ok (.bipush 99, 2) := by decide +kernel
theorem dc_53_54 : decode cc_53 54 = .ok (.invokevirtual 58, 3) := by decide +kernel
theorem dc_53_57 : decode cc_53 57 = .ok (.goto (40), 3) := by decide +kernel
theorem dc_53_60 : decode cc_53 60 = .ok (.aload_n 0, 1) := by decide +kernel
theorem dc_53_61 : decode cc_53 61 = .ok (.getfield 29, 3) := by decide +kernel
theorem dc_53_64 : decode cc_53 64 = .ok (.bipush 118, 2) := by decide +kernel
theorem dc_53_66 : decode cc_53 66 = .ok (.invokevirtual 58, 3) := by decide +kernel
theorem dc_53_69 : decode cc_53 69 = .ok (.goto (28), 3) := by decide +kernel
theorem dc_53_72 : decode cc_53 72 = .ok (.aload_n 0, 1) := by decide +kernel
theorem dc_53_73 : decode cc_53 73 = .ok (.getfield 29, 3) := by decide +kernel
theorem dc_53_76 : decode cc_53 76 = .ok (.aload_n 0, 1) := by decide +kernel
theorem dc_53_77 : decode cc_53 77 = .ok (.getfield 19, 3) := by decide +kernel
theorem dc_53_80 : decode cc_53 80 = .ok (.getfield 64, 3) := by decide +kernel
theorem dc_53_83 : decode cc_53 83 = .ok (.iload_n 1, 1) := by decide +kernel
theorem dc_53_84 : decode cc_53 84 = .ok (.iaload, 1) := by decide +kernel
theorem dc_53_85 : decode cc_53 85 = .ok (.invokevirtual 68, 3) := by decide +kernel
theorem dc_53_88 : decode cc_53 88 = .ok (.aload_n 0, 1) := by decide +kernel
theorem dc_53_89 : decode cc_53 89 = .ok (.getfield 29, 3) := by decide +kernel
theorem dc_53_92 : decode cc_53 92 = .ok (.bipush 46, 2) := by decide +kernel
theorem dc_53_94 : decode cc_53 94 = .ok (.invokevirtual 58, 3) := by decide +kernel
theorem dc_53_97 : decode cc_53 97 = .ok (.return_, 1) := by decide +kernel
theorem dc_54_0 : decode cc_54 0 = .ok (.aload_n 0, 1) := by decide +kernel
theorem dc_54_1 : decode cc_54 1 = .ok (.getfield 29, 3) := by decide +kernel
theorem dc_54_4 : decode cc_54 4 = .ok (.getfield 71, 3) := by decide +kernel
theorem dc_54_7 : decode cc_54 7 = .ok (.istore_n 3, 1) := by decide +kernel
theorem dc_54_8 : decode cc_54 8 = .ok (.aload_n 0, 1) := by decide +kernel
theorem dc_54_9 : decode cc_54 9 = .ok (.iconst 0, 1) := by decide +kernel
theorem dc_54_10 : decode cc_54 10 = .ok (.invokevirtual 74, 3) := by decide +kernel
theorem dc_54_13 : decode cc_54 13 = .ok (.istore 4, 2) := by decide +kernel
theorem dc_54_15 : decode cc_54 15 = .ok (.aload_n 0, 1) := by decide +kernel
theorem dc_54_16 : decode cc_54 16 = .ok (.iload_n 1, 1) := by decide +kernel
theorem dc_54_17 : decode cc_54 17 = .ok (.invokevirtual 77, 3) := by decide +kernel
theorem dc_54_20 : decode cc_54 20 = .ok (.aload_n 0, 1) := by decide +kernel
theorem dc_54_21 : decode cc_54 21 = .ok (.getfield 19, 3) := by decide +kernel
theorem dc_54_24 : decode cc_54 24 = .ok (.iload 4, 2) := by decide +kernel
theorem dc_54_26 : decode cc_54 26 = .ok (.iload_n 3, 1) := by decide +kernel
theorem dc_54_27 : decode cc_54 27 = .ok (.iload_n 2, 1) := by decide +kernel
theorem dc_54_28 : decode cc_54 28 = .ok (.invokevirtual 80, 3) := by decide +kernel
theorem dc_54_31 : decode cc_54 31 = .ok (.ireturn, 1) := by decide +kernel
theorem dc_55_0 : decode cc_55 0 = .ok (.aload_n 0, 1) := by decide +kernel
theorem dc_55_1 : decode cc_55 1 = .ok (.getfield 29, 3) := by decide +kernel
theorem dc_55_4 : decode cc_55 4 = .ok (.getfield 71, 3) := by decide +kernel
theorem dc_55_7 : decode cc_55 7 = .ok (.istore_n 2, 1) := by decide +kernel
theorem dc_55_8 : decode cc_55 8 = .ok (.aload_n 0, 1) := by decide +kernel
theorem dc_55_9 : decode cc_55 9 = .ok (.invokevirtual 84, 3) := by decide +kernel
theorem dc_55_12 : decode cc_55 12 = .ok (.istore_n 3, 1) := by decide +kernel
theorem dc_55_13 : decode cc_55 13 = .ok (.aload_n 0, 1) := by decide +kernel
theorem dc_55_14 : decode cc_55 14 = .ok (.iload_n 1, 1) := by decide +kernel
theorem dc_55_15 : decode cc_55 15 = .ok (.invokevirtual 74, 3) := by decide +kernel
theorem dc_55_18 : decode cc_55 18 = .ok (.istore 4, 2) := by decide +kernel
theorem dc_55_20 : decode cc_55 20 = .ok (.aload_n 0, 1) := by decide +kernel
theorem dc_55_21 : decode cc_55 21 = .ok (.iload_n 3, 1) := by decide +kernel
theorem dc_55_22 : decode cc_55 22 = .ok (.invokevirtual 77, 3) := by decide +kernel
theorem dc_55_25 : decode cc_55 25 = .ok (.iload 4, 2) := by decide +kernel
theorem dc_55_27 : decode cc_55 27 = .ok (.iconst (-1), 1) := by decide +kernel
theorem dc_55_28 : decode cc_55 28 = .ok (.if_icmp .eq (15), 3) := by decide +kernel
theorem dc_55_31 : decode cc_55 31 = .ok (.aload_n 0, 1) := by decide +kernel
theorem dc_55_32 : decode cc_55 32 = .ok (.getfield 19, 3) := by decide +kernel
theorem dc_55_35 : decode cc_55 35 = .ok (.iload 4, 2) := by decide +kernel
theorem dc_55_37 : decode cc_55 37 = .ok (.iload_n 2, 1) := by decide +kernel
theorem dc_55_38 : decode cc_55 38 = .ok (.iconst 0, 1) := by decide +kernel
theorem dc_55_39 : decode cc_55 39 = .ok (.invokevirtual 80, 3) := by decide +kernel
theorem dc_55_42 : decode cc_55 42 = .ok (.pop, 1) := by decide +kernel
theorem dc_55_43 : decode cc_55 43 = .ok (.return_, 1) := by decide +kernel
theorem dc_56_0 : decode cc_56 0 = .ok (.aload_n 0, 1) := by decide +kernel
theorem dc_56_1 : decode cc_56 1 = .ok (.invokevirtual 87, 3) := by decide +kernel
theorem dc_56_4 : decode cc_56 4 = .ok (.istore_n 2, 1) := by decide +kernel
theorem dc_56_5 : decode cc_56 5 = .ok (.aload_n 0, 1) := by decide +kernel
theorem dc_56_6 : decode cc_56 6 = .ok (.iload_n 1, 1) := by decide +kernel
theorem dc_56_7 : decode cc_56 7 = .ok (.invokevirtual 90, 3) := by decide +kernel
theorem dc_56_10 : decode cc_56 10 = .ok (.istore_n 3, 1) := by decide +kernel
theorem dc_56_11 : decode cc_56 11 = .ok (.iconst 0, 1) := by decide +kernel
theorem dc_56_12 : decode cc_56 12 = .ok (.istore 4, 2) := by decide +kernel
theorem dc_56_14 : decode cc_56 14 = .ok (.iload 4, 2) := by decide +kernel
theorem dc_56_16 : decode cc_56 16 = .ok (.sipush 160, 3) := by decide +kernel
theorem dc_56_19 : decode cc_56 19 = .ok (.if_icmp .ge (56), 3) := by decide +kernel
theorem dc_56_22 : decode cc_56 22 = .ok (.aload_n 0, 1) := by decide +kernel
theorem dc_56_23 : decode cc_56 23 = .ok (.getfield 9, 3) := by decide +kernel
theorem dc_56_26 : decode cc_56 26 = .ok (.bipush 91, 2) := by decide +kernel
theorem dc_56_28 : decode cc_56 28 = .ok (.invokevirtual 93, 3) := by decide +kernel
theorem dc_56_31 : decode cc_56 31 = .ok (.ifCond .ne (15), 3) := by decide +kernel
theorem dc_56_34 : decode cc_56 34 = .ok (.aload_n 0, 1) := by decide +kernel
theorem dc_56_35 : decode cc_56 35 = .ok (.getfield 9, 3) := by decide +kernel
theorem dc_56_38 : decode cc_56 38 = .ok (.bipush 40, 2) := by decide +kernel
theorem dc_56_40 : decode cc_56 40 = .ok (.invokevirtual 93, 3) := by decide +kernel
theorem dc_56_43 : decode cc_56 43 = .ok (.ifCond .eq (32), 3) := by decide +kernel
theorem dc_56_46 : decode cc_56 46 = .ok (.aload_n 0, 1) := by decide +kernel
theorem dc_56_47 : decode cc_56 47 = .ok (.getfield 9, 3) := by decide +kernel
theorem dc_56_50 : decode cc_56 50 = .ok (.bipush 91, 2) := by decide +kernel
theorem dc_56_52 : decode cc_56 52 = .ok (.invokevirtual 93, 3) := by decide +kernel
theorem dc_56_55 : decode cc_56 55 = .ok (.ifCond .eq (10), 3) := by decide +kernel
theorem dc_56_58 : decode cc_56 58 = .ok (.aload_n 0, 1) := by decide +kernel
theorem dc_56_59 : decode cc_56 59 = .ok (.invokevirtual 96, 3) := by decide +kernel
theorem dc_56_62 : decode cc_56 62 = .ok (.goto (7), 3) := by decide +kernel
theorem dc_56_65 : decode cc_56 65 = .ok (.aload_n 0, 1) := by decide +kernel
theorem dc_56_66 : decode cc_56 66 = .ok (.invokevirtual 99, 3) := by decide +kernel
theorem dc_56_69 : decode cc_56 69 = .ok (.iinc 4 1, 3) := by decide +kernel
theorem dc_56_72 : decode cc_56 72 = .ok (.goto (-58), 3) := by decide +kernel
theorem dc_56_75 : decode cc_56 75 = .ok (.aload_n 0, 1) := by decide +kernel
theorem dc_56_76 : decode cc_56 76 = .ok (.getfield 29, 3) := by decide +kernel
theorem dc_56_79 : decode cc_56 79 = .ok (.bipush 42, 2) := by decide +kernel
theorem dc_56_81 : decode cc_56 81 = .ok (.iload_n 2, 1) := by decide +kernel
theorem dc_56_82 : decode cc_56 82 = .ok (.invokevirtual 102, 3) := by decide +kernel
theorem dc_56_85 : decode cc_56 85 = .ok (.iload_n 3, 1) := by decide +kernel
theorem dc_56_86 : decode cc_56 86 = .ok (.ireturn, 1) := by decide +kernel
theorem dc_57_0 : decode cc_57 0 = .ok (.iconst 0, 1) := by decide +kernel
theorem dc_57_1 : decode cc_57 1 = .ok (.istore_n 1, 1) := by decide +kernel
theorem dc_57_2 : decode cc_57 2 = .ok (.iconst 0, 1) := by decide +kernel
theorem dc_57_3 : decode cc_57 3 = .ok (.istore_n 2, 1) := by decide +kernel
theorem dc_57_4 : decode cc_57 4 = .ok (.iload_n 2, 1) := by decide +kernel
theorem dc_57_5 : decode cc_57 5 = .ok (.sipush 160, 3) := by decide +kernel
theorem dc_57_8 : decode cc_57 8 = .ok (.if_icmp .ge (32), 3) := by decide +kernel
theorem dc_57_11 : decode cc_57 11 = .ok (.aload_n 0, 1) := by decide +kernel
theorem dc_57_12 : decode cc_57 12 = .ok (.getfield 9, 3) := by decide +kernel
theorem dc_57_15 : decode cc_57 15 = .ok (.bipush 42, 2) := by decide +kernel
theorem dc_57_17 : decode cc_57 17 = .ok (.invokevirtual 93, 3) := by decide +kernel
theorem dc_57_20 : decode cc_57 20 = .ok (.ifCond .eq (20), 3) := by decide +kernel
theorem dc_57_23 : decode cc_57 23 = .ok (.aload_n 0, 1) := by decide +kernel
theorem dc_57_24 : decode cc_57 24 = .ok (.getfield 9, 3) := by decide +kernel
theorem dc_57_27 : decode cc_57 27 = .ok (.invokevirtual 44, 3) := by decide +kernel
theorem dc_57_30 : decode cc_57 30 = .ok (.pop, 1) := by decide +kernel
theorem dc_57_31 : decode cc_57 31 = .ok (.iinc 1 1, 3) := by decide +kernel
theorem dc_57_34 : decode cc_57 34 = .ok (.iinc 2 1, 3) := by decide +kernel
theorem dc_57_37 : decode cc_57 37 = .ok (.goto (-33), 3) := by decide +kernel
theorem dc_57_40 : decode cc_57 40 = .ok (.iload_n 1, 1) := by decide +kernel
theorem dc_57_41 : decode cc_57 41 = .ok (.ireturn, 1) := by decide +kernel
theorem dc_58_0 : decode cc_58 0 = .ok (.aload_n 0, 1) := by decide +kernel
theorem dc_58_1 : decode cc_58 1 = .ok (.getfield 9, 3) := by decide +kernel
theorem dc_58_4 : decode cc_58 4 = .ok (.iconst 2, 1) := by decide +kernel
theorem dc_58_5 : decode cc_58 5 = .ok (.invokevirtual 93, 3) := by decide +kernel
theorem dc_58_8 : decode cc_58 8 = .ok (.ifCond .eq (37), 3) := by decide +kernel
theorem dc_58_11 : decode cc_58 11 = .ok (.iload_n 1, 1) := by decide +kernel
theorem dc_58_12 : decode cc_58 12 = .ok (.iconst 2, 1) := by decide +kernel
theorem dc_58_13 : decode cc_58 13 = .ok (.if_icmp .eq (32), 3) := by decide +kernel
theorem dc_58_16 : decode cc_58 16 = .ok (.aload_n 0, 1) := by decide +kernel
theorem dc_58_17 : decode cc_58 17 = .ok (.getfield 9, 3) := by decide +kernel
theorem dc_58_20 : decode cc_58 20 = .ok (.aload_n 0, 1) := by decide +kernel
theorem dc_58_21 : decode cc_58 21 = .ok (.getfield 19, 3) := by decide +kernel
theorem dc_58_24 : decode cc_58 24 = .ok (.aload_n 0, 1) := by decide +kernel
theorem dc_58_25 : decode cc_58 25 = .ok (.getfield 9, 3) := by decide +kernel
theorem dc_58_28 : decode cc_58 28 = .ok (.getfield 30, 3) := by decide +kernel
theorem dc_58_31 : decode cc_58 31 = .ok (.invokevirtual 106, 3) := by decide +kernel
theorem dc_58_34 : decode cc_58 34 = .ok (.invokevirtual 40, 3) := by decide +kernel
theorem dc_58_37 : decode cc_58 37 = .ok (.aload_n 0, 1) := by decide +kernel
theorem dc_58_38 : decode cc_58 38 = .ok (.getfield 9, 3) := by decide +kernel
theorem dc_58_41 : decode cc_58 41 = .ok (.invokevirtual 44, 3) := by decide +kernel
theorem dc_58_44 : decode cc_58 44 = .ok (.ireturn, 1) := by decide +kernel
theorem dc_58_45 : decode cc_58 45 = .ok (.aload_n 0, 1) := by decide +kernel
theorem dc_58_46 : decode cc_58 46 = .ok (.getfield 9, 3) := by decide +kernel
theorem dc_58_49 : decode cc_58 49 = .ok (.bipush 40, 2) := by decide +kernel
theorem dc_58_51 : decode cc_58 51 = .ok (.invokevirtual 93, 3) := by decide +kernel
theorem dc_58_54 : decode cc_58 54 = .ok (.ifCond .eq (37), 3) := by decide +kernel
theorem dc_58_57 : decode cc_58 57 = .ok (.aload_n 0, 1) := by decide +kernel
theorem dc_58_58 : decode cc_58 58 = .ok (.iload_n 1, 1) := by decide +kernel
theorem dc_58_59 : decode cc_58 59 = .ok (.invokevirtual 109, 3) := by decide +kernel
theorem dc_58_62 : decode cc_58 62 = .ok (.ifCond .eq (29), 3) := by decide +kernel
theorem dc_58_65 : decode cc_58 65 = .ok (.aload_n 0, 1) := by decide +kernel
theorem dc_58_66 : decode cc_58 66 = .ok (.getfield 9, 3) := by decide +kernel
theorem dc_58_69 : decode cc_58 69 = .ok (.invokevirtual 44, 3) := by decide +kernel
theorem dc_58_72 : decode cc_58 72 = .ok (.pop, 1) := by decide +kernel
theorem dc_58_73 : decode cc_58 73 = .ok (.aload_n 0, 1) := by decide +kernel
theorem dc_58_74 : decode cc_58 74 = .ok (.iload_n 1, 1) := by decide +kernel
theorem dc_58_75 : decode cc_58 75 = .ok (.invokevirtual 74, 3) := by decide +kernel
theorem dc_58_78 : decode cc_58 78 = .ok (.istore_n 2, 1) := by decide +kernel
theorem dc_58_79 : decode cc_58 79 = .ok (.aload_n 0, 1) := by decide +kernel
theorem dc_58_80 : decode cc_58 80 = .ok (.getfield 9, 3) := by decide +kernel
theorem dc_58_83 : decode cc_58 83 = .ok (.bipush 41, 2) := by decide +kernel
theorem dc_58_85 : decode cc_58 85 = .ok (.invokevirtual 112, 3) := by decide +kernel
theorem dc_58_88 : decode cc_58 88 = .ok (.pop, 1) := by decide +kernel
theorem dc_58_89 : decode cc_58 89 = .ok (.iload_n 2, 1) := by decide +kernel
theorem dc_58_90 : decode cc_58 90 = .ok (.ireturn, 1) := by decide +kernel
theorem dc_58_91 : decode cc_58 91 = .ok (.aload_n 0, 1) := by decide +kernel
theorem dc_58_92 : decode cc_58 92 = .ok (.getfield 9, 3) := by decide +kernel
theorem dc_58_95 : decode cc_58 95 = .ok (.iload_n 1, 1) := by decide +kernel
theorem dc_58_96 : decode cc_58 96 = .ok (.ifCond .eq (7), 3) := by decide +kernel
theorem dc_58_99 : decode cc_58 99 = .ok (.iconst 1, 1) := by decide +kernel
theorem dc_58_100 : decode cc_58 100 = .ok (.goto (4), 3) := by decide +kernel
theorem dc_58_103 : decode cc_58 103 = .ok (.iconst 0, 1) := by decide +kernel
theorem dc_58_104 : decode cc_58 104 = .ok (.invokevirtual 40, 3) := by decide +kernel
theorem dc_58_107 : decode cc_58 107 = .ok (.iconst (-1), 1) := by decide +kernel
theorem dc_58_108 : decode cc_58 108 = .ok (.ireturn, 1) := by decide +kernel
theorem dc_59_0 : decode cc_59 0 = .ok (.iload_n 1, 1) := by decide +kernel
theorem dc_59_1 : decode cc_59 1 = .ok (.ifCond .ne (5), 3) := by decide +kernel
theorem dc_59_4 : decode cc_59 4 = .ok (.iconst 1, 1) := by decide +kernel
theorem dc_59_5 : decode cc_59 5 = .ok (.ireturn, 1) := by decide +kernel
theorem dc_59_6 : decode cc_59 6 = .ok (.aload_n 0, 1) := by decide +kernel
theorem dc_59_7 : decode cc_59 7 = .ok (.getfield 9, 3) := by decide +kernel
theorem dc_59_10 : decode cc_59 10 = .ok (.invokevirtual 115, 3) := by decide +kernel
theorem dc_59_13 : decode cc_59 13 = .ok (.lookupswitch (75) #[(2, 45), (40, 43), (42, 43), (91, 43)], 43) := by decide +kernel
theorem dc_59_56 : decode cc_59 56 = .ok (.iconst 1, 1) := by decide +kernel
theorem dc_59_57 : decode cc_59 57 = .ok (.ireturn, 1) := by decide +kernel
theorem dc_59_58 : decode cc_59 58 = .ok (.iload_n 1, 1) := by decide +kernel
theorem dc_59_59 : decode cc_59 59 = .ok (.iconst 1, 1) := by decide +kernel
theorem dc_59_60 : decode cc_59 60 = .ok (.if_icmp .ne (26), 3) := by decide +kernel
theorem dc_59_63 : decode cc_59 63 = .ok (.aload_n 0, 1) := by decide +kernel
theorem dc_59_64 : decode cc_59 64 = .ok (.getfield 19, 3) := by decide +kernel
theorem dc_59_67 : decode cc_59 67 = .ok (.aload_n 0, 1) := by decide +kernel
theorem dc_59_68 : decode cc_59 68 = .ok (.getfield 9, 3) := by decide +kernel
theorem dc_59_71 : decode cc_59 71 = .ok (.getfield 30, 3) := by decide +kernel
theorem dc_59_74 : decode cc_59 74 = .ok (.iconst 1, 1) := by decide +kernel
theorem dc_59_75 : decode cc_59 75 = .ok (.iadd, 1) := by decide +kernel
theorem dc_59_76 : decode cc_59 76 = .ok (.invokevirtual 36, 3) := by decide +kernel
theorem dc_59_79 : decode cc_59 79 = .ok (.ifCond .ne (7), 3) := by decide +kernel
theorem dc_59_82 : decode cc_59 82 = .ok (.iconst 1, 1) := by decide +kernel
theorem dc_59_83 : decode cc_59 83 = .ok (.goto (4), 3) := by decide +kernel
theorem dc_59_86 : decode cc_59 86 = .ok (.iconst 0, 1) := by decide +kernel
theorem dc_59_87 : decode cc_59 87 = .ok (.ireturn, 1) := by decide +kernel
theorem dc_59_88 : decode cc_59 88 = .ok (.iconst 0, 1) := by decide +kernel
theorem dc_59_89 : decode cc_59 89 = .ok (.ireturn, 1) := by decide +kernel
theorem dc_60_0 : decode cc_60 0 = .ok (.aload_n 0, 1) := by decide +kernel
theorem dc_60_1 : decode cc_60 1 = .ok (.getfield 9, 3) := by decide +kernel
theorem dc_60_4 : decode cc_60 4 = .ok (.bipush 91, 2) := by decide +kernel
theorem dc_60_6 : decode cc_60 6 = .ok (.invokevirtual 112, 3) := by decide +kernel
theorem dc_60_9 : decode cc_60 9 = .ok (.pop, 1) := by decide +kernel
theorem dc_60_10 : decode cc_60 10 = .ok (.aload_n 0, 1) := by decide +kernel
theorem dc_60_11 : decode cc_60 11 = .ok (.getfield 29, 3) := by decide +kernel
theorem dc_60_14 : decode cc_60 14 = .ok (.bipush 91, 2) := by decide +kernel
theorem dc_60_16 : decode cc_60 16 = .ok (.invokevirtual 58, 3) := by decide +kernel
theorem dc_60_19 : decode cc_60 19 = .ok (.aload_n 0, 1) := by decide +kernel
theorem dc_60_20 : decode cc_60 20 = .ok (.getfield 9, 3) := by decide +kernel
theorem dc_60_23 : decode cc_60 23 = .ok (.iconst 3, 1) := by decide +kernel
theorem dc_60_24 : decode cc_60 24 = .ok (.invokevirtual 93, 3) := by decide +kernel
theorem dc_60_27 : decode cc_60 27 = .ok (.ifCond .eq (24), 3) := by decide +kernel
theorem dc_60_30 : decode cc_60 30 = .ok (.aload_n 0, 1) := by decide +kernel
theorem dc_60_31 : decode cc_60 31 = .ok (.getfield 29, 3) := by decide +kernel
theorem dc_60_34 : decode cc_60 34 = .ok (.aload_n 0, 1) := by decide +kernel
theorem dc_60_35 : decode cc_60 35 = .ok (.getfield 15, 3) := by decide +kernel
theorem dc_60_38 : decode cc_60 38 = .ok (.aload_n 0, 1) := by decide +kernel
theorem dc_60_39 : decode cc_60 39 = .ok (.getfield 9, 3) := by decide +kernel
theorem dc_60_42 : decode cc_60 42 = .ok (.invokevirtual 44, 3) := by decide +kernel
theorem dc_60_45 : decode cc_60 45 = .ok (.invokevirtual 118, 3) := by decide +kernel
theorem dc_60_48 : decode cc_60 48 = .ok (.invokevirtual 122, 3) := by decide +kernel
theorem dc_60_51 : decode cc_60 51 = .ok (.aload_n 0, 1) := by decide +kernel
theorem dc_60_52 : decode cc_60 52 = .ok (.getfield 9, 3) := by decide +kernel
theorem dc_60_55 : decode cc_60 55 = .ok (.bipush 93, 2) := by decide +kernel
theorem dc_60_57 : decode cc_60 57 = .ok (.invokevirtual 112, 3) := by decide +kernel
theorem dc_60_60 : decode cc_60 60 = .ok (.pop, 1) := by decide +kernel
theorem dc_60_61 : decode cc_60 61 = .ok (.aload_n 0, 1) := by decide +kernel
theorem dc_60_62 : decode cc_60 62 = .ok (.getfield 29, 3) := by decide +kernel
theorem dc_60_65 : decode cc_60 65 = .ok (.bipush 93, 2) := by decide +kernel
theorem dc_60_67 : decode cc_60 67 = .ok (.invokevirtual 58, 3) := by decide +kernel
theorem dc_60_70 : decode cc_60 70 = .ok (.return_, 1) := by decide +kernel
theorem dc_61_0 : decode cc_61 0 = .ok (.aload_n 0, 1) := by decide +kernel
theorem dc_61_1 : decode cc_61 1 = .ok (.getfield 9, 3) := by decide +kernel
theorem dc_61_4 : decode cc_61 4 = .ok (.bipush 40, 2) := by decide +kernel
theorem dc_61_6 : decode cc_61 6 = .ok (.invokevirtual 112, 3) := by decide +kernel
theorem dc_61_9 : decode cc_61 9 = .ok (.pop, 1) := by decide +kernel
theorem dc_61_10 : decode cc_61 10 = .ok (.aload_n 0, 1) := by decide +kernel
theorem dc_61_11 : decode cc_61 11 = .ok (.getfield 29, 3) := by decide +kernel
theorem dc_61_14 : decode cc_61 14 = .ok (.bipush 40, 2) := by decide +kernel
theorem dc_61_16 : decode cc_61 16 = .ok (.invokevirtual 58, 3) := by decide +kernel
theorem dc_61_19 : decode cc_61 19 = .ok (.aload_n 0, 1) := by decide +kernel
theorem dc_61_20 : decode cc_61 20 = .ok (.getfield 19, 3) := by decide +kernel
theorem dc_61_23 : decode cc_61 23 = .ok (.aload_n 0, 1) := by decide +kernel
theorem dc_61_24 : decode cc_61 24 = .ok (.getfield 19, 3) := by decide +kernel
theorem dc_61_27 : decode cc_61 27 = .ok (.invokevirtual 126, 3) := by decide +kernel
theorem dc_61_30 : decode cc_61 30 = .ok (.invokevirtual 129, 3) := by decide +kernel
theorem dc_61_33 : decode cc_61 33 = .ok (.aload_n 0, 1) := by decide +kernel
theorem dc_61_34 : decode cc_61 34 = .ok (.getfield 9, 3) := by decide +kernel
theorem dc_61_37 : decode cc_61 37 = .ok (.bipush 7, 2) := by decide +kernel
theorem dc_61_39 : decode cc_61 39 = .ok (.invokevirtual 93, 3) := by decide +kernel
theorem dc_61_42 : decode cc_61 42 = .ok (.ifCond .eq (26), 3) := by decide +kernel
theorem dc_61_45 : decode cc_61 45 = .ok (.aload_n 0, 1) := by decide +kernel
theorem dc_61_46 : decode cc_61 46 = .ok (.getfield 9, 3) := by decide +kernel
theorem dc_61_49 : decode cc_61 49 = .ok (.invokevirtual 115, 3) := by decide +kernel
theorem dc_61_52 : decode cc_61 52 = .ok (.bipush 41, 2) := by decide +kernel
theorem dc_61_54 : decode cc_61 54 = .ok (.if_icmp .ne (14), 3) := by decide +kernel
theorem dc_61_57 : decode cc_61 57 = .ok (.aload_n 0, 1) := by decide +kernel
theorem dc_61_58 : decode cc_61 58 = .ok (.getfield 9, 3) := by decide +kernel
theorem dc_61_61 : decode cc_61 61 = .ok (.invokevirtual 44, 3) := by decide +kernel
theorem dc_61_64 : decode cc_61 64 = .ok (.pop, 1) := by decide +kernel
theorem dc_61_65 : decode cc_61 65 = .ok (.goto (69), 3) := by decide +kernel
theorem dc_61_68 : decode cc_61 68 = .ok (.aload_n 0, 1) := by decide +kernel
theorem dc_61_69 : decode cc_61 69 = .ok (.getfield 9, 3) := by decide +kernel
theorem dc_61_72 : decode cc_61 72 = .ok (.bipush 41, 2) := by decide +kernel
theorem dc_61_74 : decode cc_61 74 = .ok (.invokevirtual 93, 3) := by decide +kernel
theorem dc_61_77 : decode cc_61 77 = .ok (.ifCond .ne (57), 3) := by decide +kernel
theorem dc_61_80 : decode cc_61 80 = .ok (.aload_n 0, 1) := by decide +kernel
theorem dc_61_81 : decode cc_61 81 = .ok (.iconst 1, 1) := by decide +kernel
theorem dc_61_82 : decode cc_61 82 = .ok (.invokevirtual 132, 3) := by decide +kernel
theorem dc_61_85 : decode cc_61 85 = .ok (.iconst 0, 1) := by decide +kernel
theorem dc_61_86 : decode cc_61 86 = .ok (.istore_n 1, 1) := by decide +kernel
theorem dc_61_87 : decode cc_61 87 = .ok (.iload_n 1, 1) := by decide +kernel
theorem dc_61_88 : decode cc_61 88 = .ok (.sipush 160, 3) := by decide +kernel
theorem dc_61_91 : decode cc_61 91 = .ok (.if_icmp .ge (43), 3) := by decide +kernel
theorem dc_61_94 : decode cc_61 94 = .ok (.aload_n 0, 1) := by decide +kernel
theorem dc_61_95 : decode cc_61 95 = .ok (.getfield 9, 3) := by decide +kernel
theorem dc_61_98 : decode cc_61 98 = .ok (.bipush 44, 2) := by decide +kernel
theorem dc_61_100 : decode cc_61 100 = .ok (.invokevirtual 93, 3) := by decide +kernel
theorem dc_61_103 : decode cc_61 103 = .ok (.ifCond .eq (31), 3) := by decide +kernel
theorem dc_61_106 : decode cc_61 106 = .ok (.aload_n 0, 1) := by decide +kernel
theorem dc_61_107 : decode cc_61 107 = .ok (.getfield 9, 3) := by decide +kernel
theorem dc_61_110 : decode cc_61 110 = .ok (.invokevirtual 44, 3) := by decide +kernel
theorem dc_61_113 : decode cc_61 113 = .ok (.pop, 1) := by decide +kernel
theorem dc_61_114 : decode cc_61 114 = .ok (.aload_n 0, 1) := by decide +kernel
theorem dc_61_115 : decode cc_61 115 = .ok (.getfield 29, 3) := by decide +kernel
theorem dc_61_118 : decode cc_61 118 = .ok (.bipush 44, 2) := by decide +kernel
theorem dc_61_120 : decode cc_61 120 = .ok (.invokevirtual 58, 3) := by decide +kernel
theorem dc_61_123 : decode cc_61 123 = .ok (.aload_n 0, 1) := by decide +kernel
theorem dc_61_124 : decode cc_61 124 = .ok (.iconst 1, 1) := by decide +kernel
theorem dc_61_125 : decode cc_61 125 = .ok (.invokevirtual 132, 3) := by decide +kernel
theorem dc_61_128 : decode cc_61 128 = .ok (.iinc 1 1, 3) := by decide +kernel
theorem dc_61_131 : decode cc_61 131 = .ok (.goto (-44), 3) := by decide +kernel
theorem dc_61_134 : decode cc_61 134 = .ok (.aload_n 0, 1) := by decide +kernel
theorem dc_61_135 : decode cc_61 135 = .ok (.getfield 19, 3) := by decide +kernel
theorem dc_61_138 : decode cc_61 138 = .ok (.invokevirtual 135, 3) := by decide +kernel
theorem dc_61_141 : decode cc_61 141 = .ok (.aload_n 0, 1) := by decide +kernel
theorem dc_61_142 : decode cc_61 142 = .ok (.getfield 9, 3) := by decide +kernel
theorem dc_61_145 : decode cc_61 145 = .ok (.bipush 41, 2) := by decide +kernel
theorem dc_61_147 : decode cc_61 147 = .ok (.invokevirtual 112, 3) := by decide +kernel
theorem dc_61_150 : decode cc_61 150 = .ok (.pop, 1) := by decide +kernel
theorem dc_61_151 : decode cc_61 151 = .ok (.aload_n 0, 1) := by decide +kernel
theorem dc_61_152 : decode cc_61 152 = .ok (.getfield 29, 3) := by decide +kernel
theorem dc_61_155 : decode cc_61 155 = .ok (.bipush 41, 2) := by decide +kernel
theorem dc_61_157 : decode cc_61 157 = .ok (.invokevirtual 58, 3) := by decide +kernel
theorem dc_61_160 : decode cc_61 160 = .ok (.return_, 1) := by decide +kernel
theorem dc_62_0 : decode cc_62 0 = .ok (.aload_n 0, 1) := by decide +kernel
theorem dc_62_1 : decode cc_62 1 = .ok (.iconst 0, 1) := by decide +kernel
theorem dc_62_2 : decode cc_62 2 = .ok (.putfield 22, 3) := by decide +kernel
theorem dc_62_5 : decode cc_62 5 = .ok (.return_, 1) := by decide +kernel
theorem dc_63_0 : decode cc_63 0 = .ok (.iconst 0, 1) := by decide +kernel
theorem dc_63_1 : decode cc_63 1 = .ok (.istore_n 1, 1) := by decide +kernel
theorem dc_63_2 : decode cc_63 2 = .ok (.aload_n 0, 1) := by decide +kernel
theorem dc_63_3 : decode cc_63 3 = .ok (.invokevirtual 46, 3) := by decide +kernel
theorem dc_63_6 : decode cc_63 6 = .ok (.istore_n 2, 1) := by decide +kernel
theorem dc_63_7 : decode cc_63 7 = .ok (.iconst 0, 1) := by decide +kernel
theorem dc_63_8 : decode cc_63 8 = .ok (.istore_n 3, 1) := by decide +kernel
theorem dc_63_9 : decode cc_63 9 = .ok (.iload_n 3, 1) := by decide +kernel
theorem dc_63_10 : decode cc_63 10 = .ok (.sipush 160, 3) := by decide +kernel
theorem dc_63_13 : decode cc_63 13 = .ok (.if_icmp .ge (41), 3) := by decide +kernel
theorem dc_63_16 : decode cc_63 16 = .ok (.iload_n 2, 1) := by decide +kernel
theorem dc_63_17 : decode cc_63 17 = .ok (.ifCond .eq (37), 3) := by decide +kernel
theorem dc_63_20 : decode cc_63 20 = .ok (.aload_n 0, 1) := by decide +kernel
theorem dc_63_21 : decode cc_63 21 = .ok (.getfield 26, 3) := by decide +kernel
theorem dc_63_24 : decode cc_63 24 = .ok (.bipush 61, 2) := by decide +kernel
theorem dc_63_26 : decode cc_63 26 = .ok (.invokevirtual 50, 3) := by decide +kernel
theorem dc_63_29 : decode cc_63 29 = .ok (.ifCond .eq (25), 3) := by decide +kernel
theorem dc_63_32 : decode cc_63 32 = .ok (.aload_n 0, 1) := by decide +kernel
theorem dc_63_33 : decode cc_63 33 = .ok (.getfield 26, 3) := by decide +kernel
theorem dc_63_36 : decode cc_63 36 = .ok (.invokevirtual 56, 3) := by decide +kernel
theorem dc_63_39 : decode cc_63 39 = .ok (.pop, 1) := by decide +kernel
theorem dc_63_40 : decode cc_63 40 = .ok (.iinc 1 1, 3) := by decide +kernel
theorem dc_63_43 : decode cc_63 43 = .ok (.aload_n 0, 1) := by decide +kernel
theorem dc_63_44 : decode cc_63 44 = .ok (.invokevirtual 46, 3) := by decide +kernel
theorem dc_63_47 : decode cc_63 47 = .ok (.istore_n 2, 1) := by decide +kernel
theorem dc_63_48 : decode cc_63 48 = .ok (.iinc 3 1, 3) := by decide +kernel
theorem dc_63_51 : decode cc_63 51 = .ok (.goto (-42), 3) := by decide +kernel
theorem dc_63_54 : decode cc_63 54 = .ok (.aload_n 0, 1) := by decide +kernel
theorem dc_63_55 : decode cc_63 55 = .ok (.getfield 26, 3) := by decide +kernel
theorem dc_63_58 : decode cc_63 58 = .ok (.bipush 60, 2) := by decide +kernel
theorem dc_63_60 : decode cc_63 60 = .ok (.invokevirtual 50, 3) := by decide +kernel
theorem dc_63_63 : decode cc_63 63 = .ok (.ifCond .eq (25), 3) := by decide +kernel
theorem dc_63_66 : decode cc_63 66 = .ok (.aload_n 0, 1) := by decide +kernel
theorem dc_63_67 : decode cc_63 67 = .ok (.getfield 26, 3) := by decide +kernel
theorem dc_63_70 : decode cc_63 70 = .ok (.invokevirtual 56, 3) := by decide +kernel
theorem dc_63_73 : decode cc_63 73 = .ok (.pop, 1) := by decide +kernel
theorem dc_63_74 : decode cc_63 74 = .ok (.aload_n 0, 1) := by decide +kernel
theorem dc_63_75 : decode cc_63 75 = .ok (.invokevirtual 46, 3) := by decide +kernel
theorem dc_63_78 : decode cc_63 78 = .ok (.pop, 1) := by decide +kernel
theorem dc_63_79 : decode cc_63 79 = .ok (.aload_n 0, 1) := by decide +kernel
theorem dc_63_80 : decode cc_63 80 = .ok (.getfield 42, 3) := by decide +kernel
theorem dc_63_83 : decode cc_63 83 = .ok (.bipush 60, 2) := by decide +kernel
theorem dc_63_85 : decode cc_63 85 = .ok (.invokevirtual 60, 3) := by decide +kernel
theorem dc_63_88 : decode cc_63 88 = .ok (.aload_n 0, 1) := by decide +kernel
theorem dc_63_89 : decode cc_63 89 = .ok (.getfield 42, 3) := by decide +kernel
theorem dc_63_92 : decode cc_63 92 = .ok (.bipush 61, 2) := by decide +kernel
theorem dc_63_94 : decode cc_63 94 = .ok (.iload_n 1, 1) := by decide +kernel
theorem dc_63_95 : decode cc_63 95 = .ok (.invokevirtual 66, 3) := by decide +kernel
theorem dc_63_98 : decode cc_63 98 = .ok (.return_, 1) := by decide +kernel
theorem dc_64_0 : decode cc_64 0 = .ok (.aload_n 0, 1) := by decide +kernel
theorem dc_64_1 : decode cc_64 1 = .ok (.invokevirtual 70, 3) := by decide +kernel
theorem dc_64_4 : decode cc_64 4 = .ok (.istore_n 1, 1) := by decide +kernel
theorem dc_64_5 : decode cc_64 5 = .ok (.iconst 0, 1) := by decide +kernel
theorem dc_64_6 : decode cc_64 6 = .ok (.istore_n 2, 1) := by decide +kernel
theorem dc_64_7 : decode cc_64 7 = .ok (.iload_n 2, 1) := by decide +kernel
theorem dc_64_8 : decode cc_64 8 = .ok (.sipush 160, 3) := by decide +kernel
theorem dc_64_11 : decode cc_64 11 = .ok (.if_icmp .ge (65), 3) := by decide +kernel
theorem dc_64_14 : decode cc_64 14 = .ok (.aload_n 0, 1) := by decide +kernel
theorem dc_64_15 : decode cc_64 15 = .ok (.getfield 26, 3) := by decide +kernel
theorem dc_64_18 : decode cc_64 18 = .ok (.bipush 43, 2) := by decide +kernel
theorem dc_64_20 : decode cc_64 20 = .ok (.invokevirtual 50, 3) := by decide +kernel
theorem dc_64_23 : decode cc_64 23 = .ok (.ifCond .ne (15), 3) := by decide +kernel
theorem dc_64_26 : decode cc_64 26 = .ok (.aload_n 0, 1) := by decide +kernel
theorem dc_64_27 : decode cc_64 27 = .ok (.getfield 26, 3) := by decide +kernel
theorem dc_64_30 : decode cc_64 30 = .ok (.bipush 45, 2) := by decide +kernel
theorem dc_64_32 : decode cc_64 32 = .ok (.invokevirtual 50, 3) := by decide +kernel
theorem dc_64_35 : decode cc_64 35 = .ok (.ifCond .eq (41), 3) := by decide +kernel
theorem dc_64_38 : decode cc_64 38 = .ok (.aload_n 0, 1) := by decide +kernel
theorem dc_64_39 : decode cc_64 39 = .ok (.getfield 26, 3) := by decide +kernel
theorem dc_64_42 : decode cc_64 42 = .ok (.invokevirtual 73, 3) := by decide +kernel
theorem dc_64_45 : decode cc_64 45 = .ok (.i2c, 1) := by decide +kernel
theorem dc_64_46 : decode cc_64 46 = .ok (.istore_n 3, 1) := by decide +kernel
theorem dc_64_47 : decode cc_64 47 = .ok (.aload_n 0, 1) := by decide +kernel
theorem dc_64_48 : decode cc_64 48 = .ok (.getfield 26, 3) := by decide +kernel
theorem dc_64_51 : decode cc_64 51 = .ok (.invokevirtual 56, 3) := by decide +kernel
theorem dc_64_54 : decode cc_64 54 = .ok (.pop, 1) := by decide +kernel
theorem dc_64_55 : decode cc_64 55 = .ok (.aload_n 0, 1) := by decide +kernel
theorem dc_64_56 : decode cc_64 56 = .ok (.invokevirtual 70, 3) := by decide +kernel
theorem dc_64_59 : decode cc_64 59 = .ok (.pop, 1) := by decide +kernel
theorem dc_64_60 : decode cc_64 60 = .ok (.aload_n 0, 1) := by decide +kernel
theorem dc_64_61 : decode cc_64 61 = .ok (.getfield 42, 3) := by decide +kernel
theorem dc_64_64 : decode cc_64 64 = .ok (.iload_n 3, 1) := by decide +kernel
theorem dc_64_65 : decode cc_64 65 = .ok (.invokevirtual 60, 3) := by decide +kernel
theorem dc_64_68 : decode cc_64 68 = .ok (.iconst 0, 1) := by decide +kernel
theorem dc_64_69 : decode cc_64 69 = .ok (.istore_n 1, 1) := by decide +kernel
theorem dc_64_70 : decode cc_64 70 = .ok (.iinc 2 1, 3) := by decide +kernel
theorem dc_64_73 : decode cc_64 73 = .ok (.goto (-66), 3) := by decide +kernel
theorem dc_64_76 : decode cc_64 76 = .ok (.iload_n 1, 1) := by decide +kernel
theorem dc_64_77 : decode cc_64 77 = .ok (.ireturn, 1) := by decide +kernel
theorem dc_65_0 : decode cc_65 0 = .ok (.aload_n 0, 1) := by decide +kernel
theorem dc_65_1 : decode cc_65 1 = .ok (.invokevirtual 76, 3) := by decide +kernel
theorem dc_65_4 : decode cc_65 4 = .ok (.istore_n 1, 1) := by decide +kernel
theorem dc_65_5 : decode cc_65 5 = .ok (.iconst 0, 1) := by decide +kernel
theorem dc_65_6 : decode cc_65 6 = .ok (.istore_n 2, 1) := by decide +kernel
theorem dc_65_7 : decode cc_65 7 = .ok (.iload_n 2, 1) := by decide +kernel
theorem dc_65_8 : decode cc_65 8 = .ok (.sipush 160, 3) := by decide +kernel
theorem dc_65_11 : decode cc_65 11 = .ok (.if_icmp .ge (65), 3) := by decide +kernel
theorem dc_65_14 : decode cc_65 14 = .ok (.aload_n 0, 1) := by decide +kernel
theorem dc_65_15 : decode cc_65 15 = .ok (.getfield 26, 3) := by decide +kernel
theorem dc_65_18 : decode cc_65 18 = .ok (.bipush 42, 2) := by decide +kernel
theorem dc_65_20 : decode cc_65 20 = .ok (.invokevirtual 50, 3) := by decide +kernel
theorem dc_65_23 : decode cc_65 23 = .ok (.ifCond .ne (15), 3) := by decide +kernel
theorem dc_65_26 : decode cc_65 26 = .ok (.aload_n 0, 1) := by decide +kernel
theorem dc_65_27 : decode cc_65 27 = .ok (.getfield 26, 3) := by decide +kernel
theorem dc_65_30 : decode cc_65 30 = .ok (.bipush 47, 2) := by decide +kernel
theorem dc_65_32 : decode cc_65 32 = .ok (.invokevirtual 50, 3) := by decide +kernel
theorem dc_65_35 : decode cc_65 35 = .ok (.ifCond .eq (41), 3) := by decide +kernel
theorem dc_65_38 : decode cc_65 38 = .ok (.aload_n 0, 1) := by decide +kernel
theorem dc_65_39 : decode cc_65 39 = .ok (.getfield 26, 3) := by decide +kernel
theorem dc_65_42 : decode cc_65 42 = .ok (.invokevirtual 73, 3) := by decide +kernel
theorem dc_65_45 : decode cc_65 45 = .ok (.i2c, 1) := by decide +kernel
theorem dc_65_46 : decode cc_65 46 = .ok (.istore_n 3, 1) := by decide +kernel
theorem dc_65_47 : decode cc_65 47 = .ok (.aload_n 0, 1) := by decide +kernel
theorem dc_65_48 : decode cc_65 48 = .ok (.getfield 26, 3) := by decide +kernel
theorem dc_65_51 : decode cc_65 51 = .ok (.invokevirtual 56, 3) := by decide +kernel
theorem dc_65_54 : decode cc_65 54 = .ok (.pop, 1) := by decide +kernel
theorem dc_65_55 : decode cc_65 55 = .ok (.aload_n 0, 1) := by decide +kernel
theorem dc_65_56 : decode cc_65 56 = .ok (.invokevirtual 76, 3) := by decide +kernel
theorem dc_65_59 : decode cc_65 59 = .ok (.pop, 1) := by decide +kernel
theorem dc_65_60 : decode cc_65 60 = .ok (.aload_n 0, 1) := by decide +kernel
theorem dc_65_61 : decode cc_65 61 = .ok (.getfield 42, 3) := by decide +kernel
theorem dc_65_64 : decode cc_65 64 = .ok (.iload_n 3, 1) := by decide +kernel
theorem dc_65_65 : decode cc_65 65 = .ok (.invokevirtual 60, 3) := by decide +kernel
theorem dc_65_68 : decode cc_65 68 = .ok (.iconst 0, 1) := by decide +kernel
theorem dc_65_69 : decode cc_65 69 = .ok (.istore_n 1, 1) := by decide +kernel
theorem dc_65_70 : decode cc_65 70 = .ok (.iinc 2 1, 3) := by decide +kernel
theorem dc_65_73 : decode cc_65 73 = .ok (.goto (-66), 3) := by decide +kernel
theorem dc_65_76 : decode cc_65 76 = .ok (.iload_n 1, 1) := by decide +kernel
theorem dc_65_77 : decode cc_65 77 = .ok (.ireturn, 1) := by decide +kernel
theorem dc_66_0 : decode cc_66 0 = .ok (.aload_n 0, 1) := by decide +kernel
theorem dc_66_1 : decode cc_66 1 = .ok (.getfield 22, 3) := by decide +kernel
theorem dc_66_4 : decode cc_66 4 = .ok (.istore_n 1, 1) := by decide +kernel
theorem dc_66_5 : decode cc_66 5 = .ok (.iconst 0, 1) := by decide +kernel
theorem dc_66_6 : decode cc_66 6 = .ok (.istore_n 2, 1) := by decide +kernel
theorem dc_66_7 : decode cc_66 7 = .ok (.iconst 1, 1) := by decide +kernel
theorem dc_66_8 : decode cc_66 8 = .ok (.istore_n 3, 1) := by decide +kernel
theorem dc_66_9 : decode cc_66 9 = .ok (.iconst 0, 1) := by decide +kernel
theorem dc_66_10 : decode cc_66 10 = .ok (.istore 4, 2) := by decide +kernel
theorem dc_66_12 : decode cc_66 12 = .ok (.iload 4, 2) := by decide +kernel
theorem dc_66_14 : decode cc_66 14 = .ok (.sipush 160, 3) := by decide +kernel
theorem dc_66_17 : decode cc_66 17 = .ok (.if_icmp .ge (122), 3) := by decide +kernel
theorem dc_66_20 : decode cc_66 20 = .ok (.iload_n 3, 1) := by decide +kernel
theorem dc_66_21 : decode cc_66 21 = .ok (.ifCond .eq (118), 3) := by decide +kernel
theorem dc_66_24 : decode cc_66 24 = .ok (.aload_n 0, 1) := by decide +kernel
theorem dc_66_25 : decode cc_66 25 = .ok (.invokevirtual 79, 3) := by decide +kernel
theorem dc_66_28 : decode cc_66 28 = .ok (.ifCond .eq (111), 3) := by decide +kernel
theorem dc_66_31 : decode cc_66 31 = .ok (.aload_n 0, 1) := by decide +kernel
theorem dc_66_32 : decode cc_66 32 = .ok (.getfield 26, 3) := by decide +kernel
theorem dc_66_35 : decode cc_66 35 = .ok (.invokevirtual 73, 3) := by decide +kernel
theorem dc_66_38 : decode cc_66 38 = .ok (.invokestatic 82, 3) := by decide +kernel
theorem dc_66_41 : decode cc_66 41 = .ok (.istore 5, 2) := by decide +kernel
theorem dc_66_43 : decode cc_66 43 = .ok (.iload 5, 2) := by decide +kernel
theorem dc_66_45 : decode cc_66 45 = .ok (.bipush 91, 2) := by decide +kernel
theorem dc_66_47 : decode cc_66 47 = .ok (.if_icmp .ne (7), 3) := by decide +kernel
theorem dc_66_50 : decode cc_66 50 = .ok (.iload_n 2, 1) := by decide +kernel
theorem dc_66_51 : decode cc_66 51 = .ok (.ifCond .ne (7), 3) := by decide +kernel
theorem dc_66_54 : decode cc_66 54 = .ok (.iconst 1, 1) := by decide +kernel
theorem dc_66_55 : decode cc_66 55 = .ok (.goto (4), 3) := by decide +kernel
theorem dc_66_58 : decode cc_66 58 = .ok (.iconst 0, 1) := by decide +kernel
theorem dc_66_59 : decode cc_66 59 = .ok (.istore_n 3, 1) := by decide +kernel
theorem dc_66_60 : decode cc_66 60 = .ok (.aload_n 0, 1) := by decide +kernel
theorem dc_66_61 : decode cc_66 61 = .ok (.getfield 26, 3) := by decide +kernel
theorem dc_66_64 : decode cc_66 64 = .ok (.bipush 12, 2) := by decide +kernel
theorem dc_66_66 : decode cc_66 66 = .ok (.invokevirtual 50, 3) := by decide +kernel
theorem dc_66_69 : decode cc_66 69 = .ok (.istore_n 2, 1) := by decide +kernel
theorem dc_66_70 : decode cc_66 70 = .ok (.aload_n 0, 1) := by decide +kernel
theorem dc_66_71 : decode cc_66 71 = .ok (.getfield 26, 3) := by decide +kernel
theorem dc_66_74 : decode cc_66 74 = .ok (.invokevirtual 56, 3) := by decide +kernel
theorem dc_66_77 : decode cc_66 77 = .ok (.pop, 1) := by decide +kernel
theorem dc_66_78 : decode cc_66 78 = .ok (.aload_n 0, 1) := by decide +kernel
theorem dc_66_79 : decode cc_66 79 = .ok (.getfield 34, 3) := by decide +kernel
theorem dc_66_82 : decode cc_66 82 = .ok (.getfield 86, 3) := by decide +kernel
theorem dc_66_85 : decode cc_66 85 = .ok (.getfield 91, 3) := by decide +kernel
theorem dc_66_88 : decode cc_66 88 = .ok (.istore 6, 2) := by decide +kernel
theorem dc_66_90 : decode cc_66 90 = .ok (.iload 5, 2) := by decide +kernel
theorem dc_66_92 : decode cc_66 92 = .ok (.bipush 91, 2) := by decide +kernel
theorem dc_66_94 : decode cc_66 94 = .ok (.if_icmp .ne (21), 3) := by decide +kernel
theorem dc_66_97 : decode cc_66 97 = .ok (.aload_n 0, 1) := by decide +kernel
theorem dc_66_98 : decode cc_66 98 = .ok (.getfield 38, 3) := by decide +kernel
theorem dc_66_101 : decode cc_66 101 = .ok (.iconst 2, 1) := by decide +kernel
theorem dc_66_102 : decode cc_66 102 = .ok (.invokevirtual 96, 3) := by decide +kernel
theorem dc_66_105 : decode cc_66 105 = .ok (.aload_n 0, 1) := by decide +kernel
theorem dc_66_106 : decode cc_66 106 = .ok (.getfield 26, 3) := by decide +kernel
theorem dc_66_109 : decode cc_66 109 = .ok (.bipush 41, 2) := by decide +kernel
theorem dc_66_111 : decode cc_66 111 = .ok (.invokevirtual 100, 3) := by decide +kernel
theorem dc_66_114 : decode cc_66 114 = .ok (.pop, 1) := by decide +kernel
theorem dc_66_115 : decode cc_66 115 = .ok (.aload_n 0, 1) := by decide +kernel
theorem dc_66_116 : decode cc_66 116 = .ok (.iload 5, 2) := by decide +kernel
theorem dc_66_118 : decode cc_66 118 = .ok (.iload 6, 2) := by decide +kernel
theorem dc_66_120 : decode cc_66 120 = .ok (.aload_n 0, 1) := by decide +kernel
theorem dc_66_121 : decode cc_66 121 = .ok (.getfield 34, 3) := by decide +kernel
theorem dc_66_124 : decode cc_66 124 = .ok (.getfield 86, 3) := by decide +kernel
theorem dc_66_127 : decode cc_66 127 = .ok (.getfield 91, 3) := by decide +kernel
theorem dc_66_130 : decode cc_66 130 = .ok (.invokevirtual 104, 3) := by decide +kernel
theorem dc_66_133 : decode cc_66 133 = .ok (.iinc 4 1, 3) := by decide +kernel
theorem dc_66_136 : decode cc_66 136 = .ok (.goto (-124), 3) := by decide +kernel
theorem dc_66_139 : decode cc_66 139 = .ok (.iload_n 3, 1) := by decide +kernel
theorem dc_66_140 : decode cc_66 140 = .ok (.ifCond .eq (14), 3) := by decide +kernel
theorem dc_66_143 : decode cc_66 143 = .ok (.aload_n 0, 1) := by decide +kernel
theorem dc_66_144 : decode cc_66 144 = .ok (.invokevirtual 108, 3) := by decide +kernel
theorem dc_66_147 : decode cc_66 147 = .ok (.ifCond .eq (7), 3) := by decide +kernel
theorem dc_66_150 : decode cc_66 150 = .ok (.iconst 1, 1) := by decide +kernel
theorem dc_66_151 : decode cc_66 151 = .ok (.goto (4), 3) := by decide +kernel
theorem dc_66_154 : decode cc_66 154 = .ok (.iconst 0, 1) := by decide +kernel
theorem dc_66_155 : decode cc_66 155 = .ok (.istore 4, 2) := by decide +kernel
theorem dc_66_157 : decode cc_66 157 = .ok (.aload_n 0, 1) := by decide +kernel
theorem dc_66_158 : decode cc_66 158 = .ok (.getfield 22, 3) := by decide +kernel
theorem dc_66_161 : decode cc_66 161 = .ok (.iload_n 1, 1) := by decide +kernel
theorem dc_66_162 : decode cc_66 162 = .ok (.if_icmp .le (21), 3) := by decide +kernel
theorem dc_66_165 : decode cc_66 165 = .ok (.aload_n 0, 1) := by decide +kernel
theorem dc_66_166 : decode cc_66 166 = .ok (.getfield 9, 3) := by decide +kernel
theorem dc_66_169 : decode cc_66 169 = .ok (.iload_n 1, 1) := by decide +kernel
theorem dc_66_170 : decode cc_66 170 = .ok (.caload, 1) := by decide +kernel
theorem dc_66_171 : decode cc_66 171 = .ok (.bipush 64, 2) := by decide +kernel
theorem dc_66_173 : decode cc_66 173 = .ok (.if_icmp .ne (7), 3) := by decide +kernel
theorem dc_66_176 : decode cc_66 176 = .ok (.iconst 1, 1) := by decide +kernel
theorem dc_66_177 : decode cc_66 177 = .ok (.goto (4), 3) := by decide +kernel
theorem dc_66_180 : decode cc_66 180 = .ok (.iconst 0, 1) := by decide +kernel
theorem dc_66_181 : decode cc_66 181 = .ok (.istore 4, 2) := by decide +kernel
theorem dc_66_183 : decode cc_66 183 = .ok (.aload_n 0, 1) := by decide +kernel
theorem dc_66_184 : decode cc_66 184 = .ok (.iload_n 1, 1) := by decide +kernel
theorem dc_66_185 : decode cc_66 185 = .ok (.invokevirtual 111, 3) := by decide +kernel
theorem dc_66_188 : decode cc_66 188 = .ok (.iload 4, 2) := by decide +kernel
theorem dc_66_190 : decode cc_66 190 = .ok (.ireturn, 1) := by decide +kernel
theorem dc_67_0 : decode cc_67 0 = .ok (.aload_n 0, 1) := by decide +kernel
theorem dc_67_1 : decode cc_67 1 = .ok (.getfield 26, 3) := by decide +kernel
theorem dc_67_4 : decode cc_67 4 = .ok (.invokevirtual 73, 3) := by decide +kernel
theorem dc_67_7 : decode cc_67 7 = .ok (.lookupswitch (76) #[(12, 57), (33, 57), (38, 57), (40, 59), (42, 57), (45, 57)], 57) := by decide +kernel
theorem dc_67_64 : decode cc_67 64 = .ok (.iconst 1, 1) := by decide +kernel
theorem dc_67_65 : decode cc_67 65 = .ok (.ireturn, 1) := by decide +kernel
theorem dc_67_66 : decode cc_67 66 = .ok (.aload_n 0, 1) := by decide +kernel
theorem dc_67_67 : decode cc_67 67 = .ok (.getfield 34, 3) := by decide +kernel
theorem dc_67_70 : decode cc_67 70 = .ok (.aload_n 0, 1) := by decide +kernel
theorem dc_67_71 : decode cc_67 71 = .ok (.getfield 26, 3) := by decide +kernel
theorem dc_67_74 : decode cc_67 74 = .ok (.getfield 114, 3) := by decide +kernel
theorem dc_67_77 : decode cc_67 77 = .ok (.iconst 1, 1) := by decide +kernel
theorem dc_67_78 : decode cc_67 78 = .ok (.iadd, 1) := by decide +kernel
theorem dc_67_79 : decode cc_67 79 = .ok (.invokevirtual 117, 3) := by decide +kernel
theorem dc_67_82 : decode cc_67 82 = .ok (.ireturn, 1) := by decide +kernel
theorem dc_67_83 : decode cc_67 83 = .ok (.iconst 0, 1) := by decide +kernel
theorem dc_67_84 : decode cc_67 84 = .ok (.ireturn, 1) := by decide +kernel
theorem dc_68_0 : decode cc_68 0 = .ok (.iload_n 0, 1) := by decide +kernel
theorem dc_68_1 : decode cc_68 1 = .ok (.lookupswitch (55) #[(12, 52), (40, 43), (42, 49), (45, 46)], 43) := by decide +kernel
theorem dc_68_44 : decode cc_68 44 = .ok (.bipush 91, 2) := by decide +kernel
theorem dc_68_46 : decode cc_68 46 = .ok (.ireturn, 1) := by decide +kernel
theorem dc_68_47 : decode cc_68 47 = .ok (.bipush 126, 2) := by decide +kernel
theorem dc_68_49 : decode cc_68 49 = .ok (.ireturn, 1) := by decide +kernel
theorem dc_68_50 : decode cc_68 50 = .ok (.bipush 64, 2) := by decide +kernel
theorem dc_68_52 : decode cc_68 52 = .ok (.ireturn, 1) := by decide +kernel
theorem dc_68_53 : decode cc_68 53 = .ok (.bipush 36, 2) := by decide +kernel
theorem dc_68_55 : decode cc_68 55 = .ok (.ireturn, 1) := by decide +kernel
theorem dc_68_56 : decode cc_68 56 = .ok (.iload_n 0, 1) := by decide +kernel
theorem dc_68_57 : decode cc_68 57 = .ok (.i2c, 1) := by decide +kernel
theorem dc_68_58 : decode cc_68 58 = .ok (.ireturn, 1) := by decide +kernel
theorem dc_69_0 : decode cc_69 0 = .ok (.aload_n 0, 1) := by decide +kernel
theorem dc_69_1 : decode cc_69 1 = .ok (.getfield 22, 3) := by decide +kernel
theorem dc_69_4 : decode cc_69 4 = .ok (.sipush 160, 3) := by decide +kernel
theorem dc_69_7 : decode cc_69 7 = .ok (.if_icmp .ge (43), 3) := by decide +kernel
theorem dc_69_10 : decode cc_69 10 = .ok (.aload_n 0, 1) := by decide +kernel
theorem dc_69_11 : decode cc_69 11 = .ok (.getfield 9, 3) := by decide +kernel
theorem dc_69_14 : decode cc_69 14 = .ok (.aload_n 0, 1) := by decide +kernel
theorem dc_69_15 : decode cc_69 15 = .ok (.getfield 22, 3) := by decide +kernel
theorem dc_69_18 : decode cc_69 18 = .ok (.iload_n 1, 1) := by decide +kernel
theorem dc_69_19 : decode cc_69 19 = .ok (.castore, 1) := by decide +kernel
theorem dc_69_20 : decode cc_69 20 = .ok (.aload_n 0, 1) := by decide +kernel
theorem dc_69_21 : decode cc_69 21 = .ok (.getfield 15, 3) := by decide +kernel
theorem dc_69_24 : decode cc_69 24 = .ok (.aload_n 0, 1) := by decide +kernel
theorem dc_69_25 : decode cc_69 25 = .ok (.getfield 22, 3) := by decide +kernel
theorem dc_69_28 : decode cc_69 28 = .ok (.iload_n 2, 1) := by decide +kernel
theorem dc_69_29 : decode cc_69 29 = .ok (.iastore, 1) := by decide +kernel
theorem dc_69_30 : decode cc_69 30 = .ok (.aload_n 0, 1) := by decide +kernel
theorem dc_69_31 : decode cc_69 31 = .ok (.getfield 19, 3) := by decide +kernel
theorem dc_69_34 : decode cc_69 34 = .ok (.aload_n 0, 1) := by decide +kernel
theorem dc_69_35 : decode cc_69 35 = .ok (.getfield 22, 3) := by decide +kernel
theorem dc_69_38 : decode cc_69 38 = .ok (.iload_n 3, 1) := by decide +kernel
theorem dc_69_39 : decode cc_69 39 = .ok (.iastore, 1) := by decide +kernel
theorem dc_69_40 : decode cc_69 40 = .ok (.aload_n 0, 1) := by decide +kernel
theorem dc_69_41 : decode cc_69 41 = .ok (.dup, 1) := by decide +kernel
theorem dc_69_42 : decode cc_69 42 = .ok (.getfield 22, 3) := by decide +kernel
theorem dc_69_45 : decode cc_69 45 = .ok (.iconst 1, 1) := by decide +kernel
theorem dc_69_46 : decode cc_69 46 = .ok (.iadd, 1) := by decide +kernel
theorem dc_69_47 : decode cc_69 47 = .ok (.putfield 22, 3) := by decide +kernel
theorem dc_69_50 : decode cc_69 50 = .ok (.return_, 1) := by decide +kernel
theorem dc_70_0 : decode cc_70 0 = .ok (.aload_n 0, 1) := by decide +kernel
theorem dc_70_1 : decode cc_70 1 = .ok (.getfield 22, 3) := by decide +kernel
theorem dc_70_4 : decode cc_70 4 = .ok (.iconst 1, 1) := by decide +kernel
theorem dc_70_5 : decode cc_70 5 = .ok (.isub, 1) := by decide +kernel
theorem dc_70_6 : decode cc_70 6 = .ok (.istore_n 2, 1) := by decide +kernel
theorem dc_70_7 : decode cc_70 7 = .ok (.iload_n 2, 1) := by decide +kernel
theorem dc_70_8 : decode cc_70 8 = .ok (.iload_n 1, 1) := by decide +kernel
theorem dc_70_9 : decode cc_70 9 = .ok (.if_icmp .lt (68), 3) := by decide +kernel
theorem dc_70_12 : decode cc_70 12 = .ok (.aload_n 0, 1) := by decide +kernel
theorem dc_70_13 : decode cc_70 13 = .ok (.getfield 42, 3) := by decide +kernel
theorem dc_70_16 : decode cc_70 16 = .ok (.aload_n 0, 1) := by decide +kernel
theorem dc_70_17 : decode cc_70 17 = .ok (.getfield 9, 3) := by decide +kernel
theorem dc_70_20 : decode cc_70 20 = .ok (.iload_n 2, 1) := by decide +kernel
theorem dc_70_21 : decode cc_70 21 = .ok (.caload, 1) := by decide +kernel
theorem dc_70_22 : decode cc_70 22 = .ok (.invokevirtual 60, 3) := by decide +kernel
theorem dc_70_25 : decode cc_70 25 = .ok (.aload_n 0, 1) := by decide +kernel
theorem dc_70_26 : decode cc_70 26 = .ok (.getfield 9, 3) := by decide +kernel
theorem dc_70_29 : decode cc_70 29 = .ok (.iload_n 2, 1) := by decide +kernel
theorem dc_70_30 : decode cc_70 30 = .ok (.caload, 1) := by decide +kernel
theorem dc_70_31 : decode cc_70 31 = .ok (.bipush 91, 2) := by decide +kernel
theorem dc_70_33 : decode cc_70 33 = .ok (.if_icmp .ne (38), 3) := by decide +kernel
theorem dc_70_36 : decode cc_70 36 = .ok (.aload_n 0, 1) := by decide +kernel
theorem dc_70_37 : decode cc_70 37 = .ok (.getfield 42, 3) := by decide +kernel
theorem dc_70_40 : decode cc_70 40 = .ok (.aload_n 0, 1) := by decide +kernel
theorem dc_70_41 : decode cc_70 41 = .ok (.getfield 34, 3) := by decide +kernel
theorem dc_70_44 : decode cc_70 44 = .ok (.getfield 86, 3) := by decide +kernel
theorem dc_70_47 : decode cc_70 47 = .ok (.aload_n 0, 1) := by decide +kernel
theorem dc_70_48 : decode cc_70 48 = .ok (.getfield 15, 3) := by decide +kernel
theorem dc_70_51 : decode cc_70 51 = .ok (.iload_n 2, 1) := by decide +kernel
theorem dc_70_52 : decode cc_70 52 = .ok (.iaload, 1) := by decide +kernel
theorem dc_70_53 : decode cc_70 53 = .ok (.aload_n 0, 1) := by decide +kernel
theorem dc_70_54 : decode cc_70 54 = .ok (.getfield 19, 3) := by decide +kernel
theorem dc_70_57 : decode cc_70 57 = .ok (.iload_n 2, 1) := by decide +kernel
theorem dc_70_58 : decode cc_70 58 = .ok (.iaload, 1) := by decide +kernel
theorem dc_70_59 : decode cc_70 59 = .ok (.invokevirtual 120, 3) := by decide +kernel
theorem dc_70_62 : decode cc_70 62 = .ok (.aload_n 0, 1) := by decide +kernel
theorem dc_70_63 : decode cc_70 63 = .ok (.getfield 42, 3) := by decide +kernel
theorem dc_70_66 : decode cc_70 66 = .ok (.bipush 93, 2) := by decide +kernel
theorem dc_70_68 : decode cc_70 68 = .ok (.invokevirtual 60, 3) := by decide +kernel
theorem dc_70_71 : decode cc_70 71 = .ok (.iinc 2 (-1), 3) := by decide +kernel
theorem dc_70_74 : decode cc_70 74 = .ok (.goto (-67), 3) := by decide +kernel
theorem dc_70_77 : decode cc_70 77 = .ok (.aload_n 0, 1) := by decide +kernel
theorem dc_70_78 : decode cc_70 78 = .ok (.iload_n 1, 1) := by decide +kernel
theorem dc_70_79 : decode cc_70 79 = .ok (.putfield 22, 3) := by decide +kernel
theorem dc_70_82 : decode cc_70 82 = .ok (.return_, 1) := by decide +kernel
theorem dc_71_0 : decode cc_71 0 = .ok (.aload_n 0, 1) := by decide +kernel
theorem dc_71_1 : decode cc_71 1 = .ok (.invokevirtual 124, 3) := by decide +kernel
theorem dc_71_4 : decode cc_71 4 = .ok (.istore_n 1, 1) := by decide +kernel
theorem dc_71_5 : decode cc_71 5 = .ok (.iconst 0, 1) := by decide +kernel
theorem dc_71_6 : decode cc_71 6 = .ok (.istore_n 2, 1) := by decide +kernel
theorem dc_71_7 : decode cc_71 7 = .ok (.iload_n 2, 1) := by decide +kernel
theorem dc_71_8 : decode cc_71 8 = .ok (.sipush 160, 3) := by decide +kernel
theorem dc_71_11 : decode cc_71 11 = .ok (.if_icmp .ge (58), 3) := by decide +kernel
theorem dc_71_14 : decode cc_71 14 = .ok (.aload_n 0, 1) := by decide +kernel
theorem dc_71_15 : decode cc_71 15 = .ok (.getfield 26, 3) := by decide +kernel
theorem dc_71_18 : decode cc_71 18 = .ok (.bipush 91, 2) := by decide +kernel
theorem dc_71_20 : decode cc_71 20 = .ok (.invokevirtual 50, 3) := by decide +kernel
theorem dc_71_23 : decode cc_71 23 = .ok (.ifCond .ne (15), 3) := by decide +kernel
theorem dc_71_26 : decode cc_71 26 = .ok (.aload_n 0, 1) := by decide +kernel
theorem dc_71_27 : decode cc_71 27 = .ok (.getfield 26, 3) := by decide +kernel
theorem dc_71_30 : decode cc_71 30 = .ok (.bipush 40, 2) := by decide +kernel
theorem dc_71_32 : decode cc_71 32 = .ok (.invokevirtual 50, 3) := by decide +kernel
theorem dc_71_35 : decode cc_71 35 = .ok (.ifCond .eq (34), 3) := by decide +kernel
theorem dc_71_38 : decode cc_71 38 = .ok (.aload_n 0, 1) := by decide +kernel
theorem dc_71_39 : decode cc_71 39 = .ok (.getfield 26, 3) := by decide +kernel
theorem dc_71_42 : decode cc_71 42 = .ok (.bipush 91, 2) := by decide +kernel
theorem dc_71_44 : decode cc_71 44 = .ok (.invokevirtual 50, 3) := by decide +kernel
theorem dc_71_47 : decode cc_71 47 = .ok (.ifCond .eq (10), 3) := by decide +kernel
theorem dc_71_50 : decode cc_71 50 = .ok (.aload_n 0, 1) := by decide +kernel
theorem dc_71_51 : decode cc_71 51 = .ok (.invokevirtual 127, 3) := by decide +kernel
theorem dc_71_54 : decode cc_71 54 = .ok (.goto (7), 3) := by decide +kernel
theorem dc_71_57 : decode cc_71 57 = .ok (.aload_n 0, 1) := by decide +kernel
theorem dc_71_58 : decode cc_71 58 = .ok (.invokevirtual 130, 3) := by decide +kernel
theorem dc_71_61 : decode cc_71 61 = .ok (.iconst 1, 1) := by decide +kernel
theorem dc_71_62 : decode cc_71 62 = .ok (.istore_n 1, 1) := by decide +kernel
theorem dc_71_63 : decode cc_71 63 = .ok (.iinc 2 1, 3) := by decide +kernel
theorem dc_71_66 : decode cc_71 66 = .ok (.goto (-59), 3) := by decide +kernel
theorem dc_71_69 : decode cc_71 69 = .ok (.iload_n 1, 1) := by decide +kernel
theorem dc_71_70 : decode cc_71 70 = .ok (.ireturn, 1) := by decide +kernel
theorem dc_72_0 : decode cc_72 0 = .ok (.aload_n 0, 1) := by decide +kernel
theorem dc_72_1 : decode cc_72 1 = .ok (.getfield 26, 3) := by decide +kernel
theorem dc_72_4 : decode cc_72 4 = .ok (.bipush 91, 2) := by decide +kernel
theorem dc_72_6 : decode cc_72 6 = .ok (.invokevirtual 100, 3) := by decide +kernel
theorem dc_72_9 : decode cc_72 9 = .ok (.pop, 1) := by decide +kernel
theorem dc_72_10 : decode cc_72 10 = .ok (.aload_n 0, 1) := by decide +kernel
theorem dc_72_11 : decode cc_72 11 = .ok (.invokevirtual 133, 3) := by decide +kernel
theorem dc_72_14 : decode cc_72 14 = .ok (.aload_n 0, 1) := by decide +kernel
theorem dc_72_15 : decode cc_72 15 = .ok (.getfield 26, 3) := by decide +kernel
theorem dc_72_18 : decode cc_72 18 = .ok (.bipush 93, 2) := by decide +kernel
theorem dc_72_20 : decode cc_72 20 = .ok (.invokevirtual 100, 3) := by decide +kernel
theorem dc_72_23 : decode cc_72 23 = .ok (.pop, 1) := by decide +kernel
theorem dc_72_24 : decode cc_72 24 = .ok (.aload_n 0, 1) := by decide +kernel
theorem dc_72_25 : decode cc_72 25 = .ok (.getfield 42, 3) := by decide +kernel
theorem dc_72_28 : decode cc_72 28 = .ok (.bipush 93, 2) := by decide +kernel
theorem dc_72_30 : decode cc_72 30 = .ok (.invokevirtual 60, 3) := by decide +kernel
theorem dc_72_33 : decode cc_72 33 = .ok (.return_, 1) := by decide +kernel
theorem dc_73_0 : decode cc_73 0 = .ok (.aload_n 0, 1) := by decide +kernel
theorem dc_73_1 : decode cc_73 1 = .ok (.getfield 26, 3) := by decide +kernel
theorem dc_73_4 : decode cc_73 4 = .ok (.bipush 40, 2) := by decide +kernel
theorem dc_73_6 : decode cc_73 6 = .ok (.invokevirtual 100, 3) := by decide +kernel
theorem dc_73_9 : decode cc_73 9 = .ok (.pop, 1) := by decide +kernel
theorem dc_73_10 : decode cc_73 10 = .ok (.iconst 0, 1) := by decide +kernel
theorem dc_73_11 : decode cc_73 11 = .ok (.istore_n 1, 1) := by decide +kernel
theorem dc_73_12 : decode cc_73 12 = .ok (.aload_n 0, 1) := by decide +kernel
theorem dc_73_13 : decode cc_73 13 = .ok (.getfield 26, 3) := by decide +kernel
theorem dc_73_16 : decode cc_73 16 = .ok (.bipush 41, 2) := by decide +kernel
theorem dc_73_18 : decode cc_73 18 = .ok (.invokevirtual 50, 3) := by decide +kernel
theorem dc_73_21 : decode cc_73 21 = .ok (.ifCond .ne (51), 3) := by decide +kernel
theorem dc_73_24 : decode cc_73 24 = .ok (.aload_n 0, 1) := by decide +kernel
theorem dc_73_25 : decode cc_73 25 = .ok (.invokevirtual 133, 3) := by decide +kernel
theorem dc_73_28 : decode cc_73 28 = .ok (.iconst 1, 1) := by decide +kernel
theorem dc_73_29 : decode cc_73 29 = .ok (.istore_n 1, 1) := by decide +kernel
theorem dc_73_30 : decode cc_73 30 = .ok (.iconst 0, 1) := by decide +kernel
theorem dc_73_31 : decode cc_73 31 = .ok (.istore_n 2, 1) := by decide +kernel
theorem dc_73_32 : decode cc_73 32 = .ok (.iload_n 2, 1) := by decide +kernel
theorem dc_73_33 : decode cc_73 33 = .ok (.sipush 160, 3) := by decide +kernel
theorem dc_73_36 : decode cc_73 36 = .ok (.if_icmp .ge (36), 3) := by decide +kernel
theorem dc_73_39 : decode cc_73 39 = .ok (.aload_n 0, 1) := by decide +kernel
theorem dc_73_40 : decode cc_73 40 = .ok (.getfield 26, 3) := by decide +kernel
theorem dc_73_43 : decode cc_73 43 = .ok (.bipush 44, 2) := by decide +kernel
theorem dc_73_45 : decode cc_73 45 = .ok (.invokevirtual 50, 3) := by decide +kernel
theorem dc_73_48 : decode cc_73 48 = .ok (.ifCond .eq (24), 3) := by decide +kernel
theorem dc_73_51 : decode cc_73 51 = .ok (.aload_n 0, 1) := by decide +kernel
theorem dc_73_52 : decode cc_73 52 = .ok (.getfield 26, 3) := by decide +kernel
theorem dc_73_55 : decode cc_73 55 = .ok (.invokevirtual 56, 3) := by decide +kernel
theorem dc_73_58 : decode cc_73 58 = .ok (.pop, 1) := by decide +kernel
theorem dc_73_59 : decode cc_73 59 = .ok (.aload_n 0, 1) := by decide +kernel
theorem dc_73_60 : decode cc_73 60 = .ok (.invokevirtual 133, 3) := by decide +kernel
theorem dc_73_63 : decode cc_73 63 = .ok (.iinc 1 1, 3) := by decide +kernel
theorem dc_73_66 : decode cc_73 66 = .ok (.iinc 2 1, 3) := by decide +kernel
theorem dc_73_69 : decode cc_73 69 = .ok (.goto (-37), 3) := by decide +kernel
theorem dc_73_72 : decode cc_73 72 = .ok (.aload_n 0, 1) := by decide +kernel
theorem dc_73_73 : decode cc_73 73 = .ok (.getfield 26, 3) := by decide +kernel
theorem dc_73_76 : decode cc_73 76 = .ok (.bipush 41, 2) := by decide +kernel
theorem dc_73_78 : decode cc_73 78 = .ok (.invokevirtual 100, 3) := by decide +kernel
theorem dc_73_81 : decode cc_73 81 = .ok (.pop, 1) := by decide +kernel
theorem dc_73_82 : decode cc_73 82 = .ok (.aload_n 0, 1) := by decide +kernel
theorem dc_73_83 : decode cc_73 83 = .ok (.getfield 42, 3) := by decide +kernel
theorem dc_73_86 : decode cc_73 86 = .ok (.bipush 40, 2) := by decide +kernel
theorem dc_73_88 : decode cc_73 88 = .ok (.invokevirtual 60, 3) := by decide +kernel
theorem dc_73_91 : decode cc_73 91 = .ok (.aload_n 0, 1) := by decide +kernel
theorem dc_73_92 : decode cc_73 92 = .ok (.getfield 42, 3) := by decide +kernel
theorem dc_73_95 : decode cc_73 95 = .ok (.iload_n 1, 1) := by decide +kernel
theorem dc_73_96 : decode cc_73 96 = .ok (.invokevirtual 136, 3) := by decide +kernel
theorem dc_73_99 : decode cc_73 99 = .ok (.aload_n 0, 1) := by decide +kernel
theorem dc_73_100 : decode cc_73 100 = .ok (.getfield 42, 3) := by decide +kernel
theorem dc_73_103 : decode cc_73 103 = .ok (.bipush 41, 2) := by decide +kernel
theorem dc_73_105 : decode cc_73 105 = .ok (.invokevirtual 60, 3) := by decide +kernel
theorem dc_73_108 : decode cc_73 108 = .ok (.return_, 1) := by decide +kernel
theorem dc_74_0 : decode cc_74 0 = .ok (.aload_n 0, 1) := by decide +kernel
theorem dc_74_1 : decode cc_74 1 = .ok (.getfield 26, 3) := by decide +kernel
theorem dc_74_4 : decode cc_74 4 = .ok (.invokevirtual 73, 3) := by decide +kernel
theorem dc_74_7 : decode cc_74 7 = .ok (.lookupswitch (97) #[(2, 49), (40, 25)], 25) := by decide +kernel
theorem dc_74_32 : decode cc_74 32 = .ok (.aload_n 0, 1) := by decide +kernel
theorem dc_74_33 : decode cc_74 33 = .ok (.getfield 26, 3) := by decide +kernel
theorem dc_74_36 : decode cc_74 36 = .ok (.invokevirtual 56, 3) := by decide +kernel
theorem dc_74_39 : decode cc_74 39 = .ok (.pop, 1) := by decide +kernel
theorem dc_74_40 : decode cc_74 40 = .ok (.aload_n 0, 1) := by decide +kernel
theorem dc_74_41 : decode cc_74 41 = .ok (.invokevirtual 133, 3) := by decide +kernel
theorem dc_74_44 : decode cc_74 44 = .ok (.aload_n 0, 1) := by decide +kernel
theorem dc_74_45 : decode cc_74 45 = .ok (.getfield 26, 3) := by decide +kernel
theorem dc_74_48 : decode cc_74 48 = .ok (.bipush 41, 2) := by decide +kernel
theorem dc_74_50 : decode cc_74 50 = .ok (.invokevirtual 100, 3) := by decide +kernel
theorem dc_74_53 : decode cc_74 53 = .ok (.pop, 1) := by decide +kernel
theorem dc_74_54 : decode cc_74 54 = .ok (.iconst 0, 1) := by decide +kernel
theorem dc_74_55 : decode cc_74 55 = .ok (.ireturn, 1) := by decide +kernel
theorem dc_74_56 : decode cc_74 56 = .ok (.aload_n 0, 1) := by decide +kernel
theorem dc_74_57 : decode cc_74 57 = .ok (.getfield 26, 3) := by decide +kernel
theorem dc_74_60 : decode cc_74 60 = .ok (.aload_n 0, 1) := by decide +kernel
theorem dc_74_61 : decode cc_74 61 = .ok (.getfield 34, 3) := by decide +kernel
theorem dc_74_64 : decode cc_74 64 = .ok (.aload_n 0, 1) := by decide +kernel
theorem dc_74_65 : decode cc_74 65 = .ok (.getfield 26, 3) := by decide +kernel
theorem dc_74_68 : decode cc_74 68 = .ok (.getfield 114, 3) := by decide +kernel
theorem dc_74_71 : decode cc_74 71 = .ok (.invokevirtual 139, 3) := by decide +kernel
theorem dc_74_74 : decode cc_74 74 = .ok (.invokevirtual 142, 3) := by decide +kernel
theorem dc_74_77 : decode cc_74 77 = .ok (.aload_n 0, 1) := by decide +kernel
theorem dc_74_78 : decode cc_74 78 = .ok (.getfield 34, 3) := by decide +kernel
theorem dc_74_81 : decode cc_74 81 = .ok (.aload_n 0, 1) := by decide +kernel
theorem dc_74_82 : decode cc_74 82 = .ok (.getfield 26, 3) := by decide +kernel
theorem dc_74_85 : decode cc_74 85 = .ok (.getfield 114, 3) := by decide +kernel
theorem dc_74_88 : decode cc_74 88 = .ok (.invokevirtual 146, 3) := by decide +kernel
theorem dc_74_91 : decode cc_74 91 = .ok (.aload_n 0, 1) := by decide +kernel
theorem dc_74_92 : decode cc_74 92 = .ok (.aload_n 0, 1) := by decide +kernel
theorem dc_74_93 : decode cc_74 93 = .ok (.getfield 26, 3) := by decide +kernel
theorem dc_74_96 : decode cc_74 96 = .ok (.invokevirtual 56, 3) := by decide +kernel
theorem dc_74_99 : decode cc_74 99 = .ok (.invokevirtual 149, 3) := by decide +kernel
theorem dc_74_102 : decode cc_74 102 = .ok (.iconst 1, 1) := by decide +kernel
theorem dc_74_103 : decode cc_74 103 = .ok (.ireturn, 1) := by decide +kernel
theorem dc_74_104 : decode cc_74 104 = .ok (.aload_n 0, 1) := by decide +kernel
theorem dc_74_105 : decode cc_74 105 = .ok (.aload_n 0, 1) := by decide +kernel
theorem dc_74_106 : decode cc_74 106 = .ok (.getfield 26, 3) := by decide +kernel
theorem dc_74_109 : decode cc_74 109 = .ok (.iconst 3, 1) := by decide +kernel
theorem dc_74_110 : decode cc_74 110 = .ok (.invokevirtual 100, 3) := by decide +kernel
theorem dc_74_113 : decode cc_74 113 = .ok (.invokevirtual 149, 3) := by decide +kernel
theorem dc_74_116 : decode cc_74 116 = .ok (.iconst 0, 1) := by decide +kernel
theorem dc_74_117 : decode cc_74 117 = .ok (.ireturn, 1) := by decide +kernel
theorem dc_75_0 : decode cc_75 0 = .ok (.aload_n 0, 1) := by decide +kernel
theorem dc_75_1 : decode cc_75 1 = .ok (.getfield 42, 3) := by decide +kernel
theorem dc_75_4 : decode cc_75 4 = .ok (.aload_n 0, 1) := by decide +kernel
theorem dc_75_5 : decode cc_75 5 = .ok (.getfield 30, 3) := by decide +kernel
theorem dc_75_8 : decode cc_75 8 = .ok (.iload_n 1, 1) := by decide +kernel
theorem dc_75_9 : decode cc_75 9 = .ok (.invokevirtual 152, 3) := by decide +kernel
theorem dc_75_12 : decode cc_75 12 = .ok (.invokevirtual 158, 3) := by decide +kernel
theorem dc_75_15 : decode cc_75 15 = .ok (.aload_n 0, 1) := by decide +kernel
theorem dc_75_16 : decode cc_75 16 = .ok (.getfield 42, 3) := by decide +kernel
theorem dc_75_19 : decode cc_75 19 = .ok (.bipush 32, 2) := by decide +kernel
theorem dc_75_21 : decode cc_75 21 = .ok (.invokevirtual 60, 3) := by decide +kernel
theorem dc_75_24 : decode cc_75 24 = .ok (.return_, 1) := by decide +kernel
theorem dc_76_0 : decode cc_76 0 = .ok (.aload_n 0, 1) := by decide +kernel
theorem dc_76_1 : decode cc_76 1 = .ok (.invokevirtual 50, 3) := by decide +kernel
theorem dc_76_4 : decode cc_76 4 = .ok (.aload_n 0, 1) := by decide +kernel
theorem dc_76_5 : decode cc_76 5 = .ok (.getfield 14, 3) := by decide +kernel
theorem dc_76_8 : decode cc_76 8 = .ok (.invokevirtual 53, 3) := by decide +kernel
theorem dc_76_11 : decode cc_76 11 = .ok (.aload_n 0, 1) := by decide +kernel
theorem dc_76_12 : decode cc_76 12 = .ok (.getfield 24, 3) := by decide +kernel
theorem dc_76_15 : decode cc_76 15 = .ok (.aload_n 0, 1) := by decide +kernel
theorem dc_76_16 : decode cc_76 16 = .ok (.getfield 24, 3) := by decide +kernel
theorem dc_76_19 : decode cc_76 19 = .ok (.invokevirtual 56, 3) := by decide +kernel
theorem dc_76_22 : decode cc_76 22 = .ok (.invokevirtual 62, 3) := by decide +kernel
theorem dc_76_25 : decode cc_76 25 = .ok (.iconst 0, 1) := by decide +kernel
theorem dc_76_26 : decode cc_76 26 = .ok (.istore_n 1, 1) := by decide +kernel
theorem dc_76_27 : decode cc_76 27 = .ok (.iload_n 1, 1) := by decide +kernel
theorem dc_76_28 : decode cc_76 28 = .ok (.sipush 160, 3) := by decide +kernel
theorem dc_76_31 : decode cc_76 31 = .ok (.if_icmp .ge (25), 3) := by decide +kernel
theorem dc_76_34 : decode cc_76 34 = .ok (.aload_n 0, 1) := by decide +kernel
theorem dc_76_35 : decode cc_76 35 = .ok (.getfield 14, 3) := by decide +kernel
theorem dc_76_38 : decode cc_76 38 = .ok (.iconst 0, 1) := by decide +kernel
theorem dc_76_39 : decode cc_76 39 = .ok (.invokevirtual 66, 3) := by decide +kernel
theorem dc_76_42 : decode cc_76 42 = .ok (.ifCond .ne (14), 3) := by decide +kernel
theorem dc_76_45 : decode cc_76 45 = .ok (.aload_n 0, 1) := by decide +kernel
theorem dc_76_46 : decode cc_76 46 = .ok (.iconst 1, 1) := by decide +kernel
theorem dc_76_47 : decode cc_76 47 = .ok (.invokevirtual 70, 3) := by decide +kernel
theorem dc_76_50 : decode cc_76 50 = .ok (.iinc 1 1, 3) := by decide +kernel
theorem dc_76_53 : decode cc_76 53 = .ok (.goto (-26), 3) := by decide +kernel
theorem dc_76_56 : decode cc_76 56 = .ok (.goto (16), 3) := by decide +kernel
theorem dc_76_59 : decode cc_76 59 = .ok (.astore_n 1, 1) := by decide +kernel
theorem dc_76_60 : decode cc_76 60 = .ok (.aload_n 0, 1) := by decide +kernel
theorem dc_76_61 : decode cc_76 61 = .ok (.invokevirtual 50, 3) := by decide +kernel
theorem dc_76_64 : decode cc_76 64 = .ok (.aload_n 0, 1) := by decide +kernel
theorem dc_76_65 : decode cc_76 65 = .ok (.getfield 14, 3) := by decide +kernel
theorem dc_76_68 : decode cc_76 68 = .ok (.getfield 76, 3) := by decide +kernel
theorem dc_76_71 : decode cc_76 71 = .ok (.ireturn, 1) := by decide +kernel
theorem dc_76_72 : decode cc_76 72 = .ok (.iconst (-1), 1) := by decide +kernel
theorem dc_76_73 : decode cc_76 73 = .ok (.ireturn, 1) := by decide +kernel
theorem dc_77_0 : decode cc_77 0 = .ok (.aload_n 0, 1) := by decide +kernel
theorem dc_77_1 : decode cc_77 1 = .ok (.getfield 24, 3) := by decide +kernel
theorem dc_77_4 : decode cc_77 4 = .ok (.invokevirtual 80, 3) := by decide +kernel
theorem dc_77_7 : decode cc_77 7 = .ok (.aload_n 0, 1) := by decide +kernel
theorem dc_77_8 : decode cc_77 8 = .ok (.getfield 46, 3) := by decide +kernel
theorem dc_77_11 : decode cc_77 11 = .ok (.invokevirtual 81, 3) := by decide +kernel
theorem dc_77_14 : decode cc_77 14 = .ok (.aload_n 0, 1) := by decide +kernel
theorem dc_77_15 : decode cc_77 15 = .ok (.getfield 28, 3) := by decide +kernel
theorem dc_77_18 : decode cc_77 18 = .ok (.invokevirtual 82, 3) := by decide +kernel
theorem dc_77_21 : decode cc_77 21 = .ok (.return_, 1) := by decide +kernel
theorem dc_78_0 : decode cc_78 0 = .ok (.aload_n 0, 1) := by decide +kernel
theorem dc_78_1 : decode cc_78 1 = .ok (.getfield 14, 3) := by decide +kernel
theorem dc_78_4 : decode cc_78 4 = .ok (.getfield 76, 3) := by decide +kernel
theorem dc_78_7 : decode cc_78 7 = .ok (.istore_n 2, 1) := by decide +kernel
theorem dc_78_8 : decode cc_78 8 = .ok (.aload_n 0, 1) := by decide +kernel
theorem dc_78_9 : decode cc_78 9 = .ok (.invokevirtual 85, 3) := by decide +kernel
theorem dc_78_12 : decode cc_78 12 = .ok (.istore_n 3, 1) := by decide +kernel
theorem dc_78_13 : decode cc_78 13 = .ok (.aload_n 0, 1) := by decide +kernel
theorem dc_78_14 : decode cc_78 14 = .ok (.getfield 14, 3) := by decide +kernel
theorem dc_78_17 : decode cc_78 17 = .ok (.getfield 76, 3) := by decide +kernel
theorem dc_78_20 : decode cc_78 20 = .ok (.iload_n 2, 1) := by decide +kernel
theorem dc_78_21 : decode cc_78 21 = .ok (.isub, 1) := by decide +kernel
theorem dc_78_22 : decode cc_78 22 = .ok (.iconst 2, 1) := by decide +kernel
theorem dc_78_23 : decode cc_78 23 = .ok (.if_icmp .ne (7), 3) := by decide +kernel
theorem dc_78_26 : decode cc_78 26 = .ok (.iconst 1, 1) := by decide +kernel
theorem dc_78_27 : decode cc_78 27 = .ok (.goto (4), 3) := by decide +kernel
theorem dc_78_30 : decode cc_78 30 = .ok (.iconst 0, 1) := by decide +kernel
theorem dc_78_31 : decode cc_78 31 = .ok (.istore 4, 2) := by decide +kernel
theorem dc_78_33 : decode cc_78 33 = .ok (.aload_n 0, 1) := by decide +kernel
theorem dc_78_34 : decode cc_78 34 = .ok (.getfield 14, 3) := by decide +kernel
theorem dc_78_37 : decode cc_78 37 = .ok (.bipush 59, 2) := by decide +kernel
theorem dc_78_39 : decode cc_78 39 = .ok (.invokevirtual 66, 3) := by decide +kernel
theorem dc_78_42 : decode cc_78 42 = .ok (.ifCond .ne (7), 3) := by decide +kernel
theorem dc_78_45 : decode cc_78 45 = .ok (.iconst 1, 1) := by decide +kernel
theorem dc_78_46 : decode cc_78 46 = .ok (.goto (4), 3) := by decide +kernel
theorem dc_78_49 : decode cc_78 49 = .ok (.iconst 0, 1) := by decide +kernel
theorem dc_78_50 : decode cc_78 50 = .ok (.istore 5, 2) := by decide +kernel
theorem dc_78_52 : decode cc_78 52 = .ok (.iconst 0, 1) := by decide +kernel
theorem dc_78_53 : decode cc_78 53 = .ok (.istore 6, 2) := by decide +kernel
theorem dc_78_55 : decode cc_78 55 = .ok (.iload 6, 2) := by decide +kernel
theorem dc_78_57 : decode cc_78 57 = .ok (.sipush 160, 3) := by decide +kernel
theorem dc_78_60 : decode cc_78 60 = .ok (.if_icmp .ge (152), 3) := by decide +kernel
theorem dc_78_63 : decode cc_78 63 = .ok (.iload 5, 2) := by decide +kernel
theorem dc_78_65 : decode cc_78 65 = .ok (.ifCond .eq (147), 3) := by decide +kernel
theorem dc_78_68 : decode cc_78 68 = .ok (.aload_n 0, 1) := by decide +kernel
theorem dc_78_69 : decode cc_78 69 = .ok (.getfield 24, 3) := by decide +kernel
theorem dc_78_72 : decode cc_78 72 = .ok (.invokevirtual 88, 3) := by decide +kernel
theorem dc_78_75 : decode cc_78 75 = .ok (.istore 7, 2) := by decide +kernel
theorem dc_78_77 : decode cc_78 77 = .ok (.aload_n 0, 1) := by decide +kernel
theorem dc_78_78 : decode cc_78 78 = .ok (.getfield 37, 3) := by decide +kernel
theorem dc_78_81 : decode cc_78 81 = .ok (.iload_n 3, 1) := by decide +kernel
theorem dc_78_82 : decode cc_78 82 = .ok (.iload 4, 2) := by decide +kernel
theorem dc_78_84 : decode cc_78 84 = .ok (.invokevirtual 91, 3) := by decide +kernel
theorem dc_78_87 : decode cc_78 87 = .ok (.istore 8, 2) := by decide +kernel
theorem dc_78_89 : decode cc_78 89 = .ok (.aload_n 0, 1) := by decide +kernel
theorem dc_78_90 : decode cc_78 90 = .ok (.iload 8, 2) := by decide +kernel
theorem dc_78_92 : decode cc_78 92 = .ok (.invokevirtual 95, 3) := by decide +kernel
theorem dc_78_95 : decode cc_78 95 = .ok (.iload_n 1, 1) := by decide +kernel
theorem dc_78_96 : decode cc_78 96 = .ok (.ifCond .eq (41), 3) := by decide +kernel
theorem dc_78_99 : decode cc_78 99 = .ok (.iload 6, 2) := by decide +kernel
theorem dc_78_101 : decode cc_78 101 = .ok (.ifCond .ne (36), 3) := by decide +kernel
theorem dc_78_104 : decode cc_78 104 = .ok (.aload_n 0, 1) := by decide +kernel
theorem dc_78_105 : decode cc_78 105 = .ok (.getfield 14, 3) := by decide +kernel
theorem dc_78_108 : decode cc_78 108 = .ok (.bipush 123, 2) := by decide +kernel
theorem dc_78_110 : decode cc_78 110 = .ok (.invokevirtual 66, 3) := by decide +kernel
theorem dc_78_113 : decode cc_78 113 = .ok (.ifCond .eq (24), 3) := by decide +kernel
theorem dc_78_116 : decode cc_78 116 = .ok (.aload_n 0, 1) := by decide +kernel
theorem dc_78_117 : decode cc_78 117 = .ok (.getfield 24, 3) := by decide +kernel
theorem dc_78_120 : decode cc_78 120 = .ok (.getfield 98, 3) := by decide +kernel
theorem dc_78_123 : decode cc_78 123 = .ok (.iload 8, 2) := by decide +kernel
theorem dc_78_125 : decode cc_78 125 = .ok (.iaload, 1) := by decide +kernel
theorem dc_78_126 : decode cc_78 126 = .ok (.iconst 2, 1) := by decide +kernel
theorem dc_78_127 : decode cc_78 127 = .ok (.if_icmp .ne (10), 3) := by decide +kernel
theorem dc_78_130 : decode cc_78 130 = .ok (.aload_n 0, 1) := by decide +kernel
theorem dc_78_131 : decode cc_78 131 = .ok (.iload 7, 2) := by decide +kernel
theorem dc_78_133 : decode cc_78 133 = .ok (.invokevirtual 102, 3) := by decide +kernel
theorem dc_78_136 : decode cc_78 136 = .ok (.return_, 1) := by decide +kernel
theorem dc_78_137 : decode cc_78 137 = .ok (.aload_n 0, 1) := by decide +kernel
theorem dc_78_138 : decode cc_78 138 = .ok (.getfield 14, 3) := by decide +kernel
theorem dc_78_141 : decode cc_78 141 = .ok (.bipush 61, 2) := by decide +kernel
theorem dc_78_143 : decode cc_78 143 = .ok (.invokevirtual 66, 3) := by decide +kernel
theorem dc_78_146 : decode cc_78 146 = .ok (.ifCond .eq (27), 3) := by decide +kernel
theorem dc_78_149 : decode cc_78 149 = .ok (.aload_n 0, 1) := by decide +kernel
theorem dc_78_150 : decode cc_78 150 = .ok (.getfield 14, 3) := by decide +kernel
theorem dc_78_153 : decode cc_78 153 = .ok (.invokevirtual 105, 3) := by decide +kernel
theorem dc_78_156 : decode cc_78 156 = .ok (.pop, 1) := by decide +kernel
theorem dc_78_157 : decode cc_78 157 = .ok (.aload_n 0, 1) := by decide +kernel
theorem dc_78_158 : decode cc_78 158 = .ok (.getfield 46, 3) := by decide +kernel
theorem dc_78_161 : decode cc_78 161 = .ok (.invokevirtual 108, 3) := by decide +kernel
theorem dc_78_164 : decode cc_78 164 = .ok (.aload_n 0, 1) := by decide +kernel
theorem dc_78_165 : decode cc_78 165 = .ok (.getfield 28, 3) := by decide +kernel
theorem dc_78_168 : decode cc_78 168 = .ok (.bipush 61, 2) := by decide +kernel
theorem dc_78_170 : decode cc_78 170 = .ok (.invokevirtual 111, 3) := by decide +kernel
theorem dc_78_173 : decode cc_78 173 = .ok (.aload_n 0, 1) := by decide +kernel
theorem dc_78_174 : decode cc_78 174 = .ok (.getfield 28, 3) := by decide +kernel
theorem dc_78_177 : decode cc_78 177 = .ok (.bipush 59, 2) := by decide +kernel
theorem dc_78_179 : decode cc_78 179 = .ok (.invokevirtual 111, 3) := by decide +kernel
theorem dc_78_182 : decode cc_78 182 = .ok (.aload_n 0, 1) := by decide +kernel
theorem dc_78_183 : decode cc_78 183 = .ok (.getfield 14, 3) := by decide +kernel
theorem dc_78_186 : decode cc_78 186 = .ok (.bipush 44, 2) := by decide +kernel
theorem dc_78_188 : decode cc_78 188 = .ok (.invokevirtual 66, 3) := by decide +kernel
theorem dc_78_191 : decode cc_78 191 = .ok (.istore 5, 2) := by decide +kernel
theorem dc_78_193 : decode cc_78 193 = .ok (.iload 5, 2) := by decide +kernel
theorem dc_78_195 : decode cc_78 195 = .ok (.ifCond .eq (11), 3) := by decide +kernel
theorem dc_78_198 : decode cc_78 198 = .ok (.aload_n 0, 1) := by decide +kernel
theorem dc_78_199 : decode cc_78 199 = .ok (.getfield 14, 3) := by decide +kernel
theorem dc_78_202 : decode cc_78 202 = .ok (.invokevirtual 105, 3) := by decide +kernel
theorem dc_78_205 : decode cc_78 205 = .ok (.pop, 1) := by decide +kernel
theorem dc_78_206 : decode cc_78 206 = .ok (.iinc 6 1, 3) := by decide +kernel
theorem dc_78_209 : decode cc_78 209 = .ok (.goto (-154), 3) := by decide +kernel
theorem dc_78_212 : decode cc_78 212 = .ok (.aload_n 0, 1) := by decide +kernel
theorem dc_78_213 : decode cc_78 213 = .ok (.getfield 14, 3) := by decide +kernel
theorem dc_78_216 : decode cc_78 216 = .ok (.bipush 59, 2) := by decide +kernel
theorem dc_78_218 : decode cc_78 218 = .ok (.invokevirtual 115, 3) := by decide +kernel
theorem dc_78_221 : decode cc_78 221 = .ok (.pop, 1) := by decide +kernel
theorem dc_78_222 : decode cc_78 222 = .ok (.return_, 1) := by decide +kernel
theorem dc_79_0 : decode cc_79 0 = .ok (.aload_n 0, 1) := by decide +kernel
theorem dc_79_1 : decode cc_79 1 = .ok (.getfield 14, 3) := by decide +kernel
theorem dc_79_4 : decode cc_79 4 = .ok (.iconst 4, 1) := by decide +kernel
theorem dc_79_5 : decode cc_79 5 = .ok (.invokevirtual 66, 3) := by decide +kernel
theorem dc_79_8 : decode cc_79 8 = .ok (.ifCond .eq (19), 3) := by decide +kernel
theorem dc_79_11 : decode cc_79 11 = .ok (.aload_n 0, 1) := by decide +kernel
theorem dc_79_12 : decode cc_79 12 = .ok (.getfield 14, 3) := by decide +kernel
theorem dc_79_15 : decode cc_79 15 = .ok (.invokevirtual 105, 3) := by decide +kernel
theorem dc_79_18 : decode cc_79 18 = .ok (.pop, 1) := by decide +kernel
theorem dc_79_19 : decode cc_79 19 = .ok (.aload_n 0, 1) := by decide +kernel
theorem dc_79_20 : decode cc_79 20 = .ok (.getfield 37, 3) := by decide +kernel
theorem dc_79_23 : decode cc_79 23 = .ok (.invokevirtual 119, 3) := by decide +kernel
theorem dc_79_26 : decode cc_79 26 = .ok (.ireturn, 1) := by decide +kernel
theorem dc_79_27 : decode cc_79 27 = .ok (.aload_n 0, 1) := by decide +kernel
theorem dc_79_28 : decode cc_79 28 = .ok (.getfield 37, 3) := by decide +kernel
theorem dc_79_31 : decode cc_79 31 = .ok (.invokevirtual 119, 3) := by decide +kernel
theorem dc_79_34 : decode cc_79 34 = .ok (.istore_n 1, 1) := by decide +kernel
theorem dc_79_35 : decode cc_79 35 = .ok (.aload_n 0, 1) := by decide +kernel
theorem dc_79_36 : decode cc_79 36 = .ok (.getfield 14, 3) := by decide +kernel
theorem dc_79_39 : decode cc_79 39 = .ok (.iconst 4, 1) := by decide +kernel
theorem dc_79_40 : decode cc_79 40 = .ok (.invokevirtual 66, 3) := by decide +kernel
theorem dc_79_43 : decode cc_79 43 = .ok (.ifCond .eq (11), 3) := by decide +kernel
theorem dc_79_46 : decode cc_79 46 = .ok (.aload_n 0, 1) := by decide +kernel
theorem dc_79_47 : decode cc_79 47 = .ok (.getfield 14, 3) := by decide +kernel
theorem dc_79_50 : decode cc_79 50 = .ok (.invokevirtual 105, 3) := by decide +kernel
theorem dc_79_53 : decode cc_79 53 = .ok (.pop, 1) := by decide +kernel
theorem dc_79_54 : decode cc_79 54 = .ok (.iload_n 1, 1) := by decide +kernel
theorem dc_79_55 : decode cc_79 55 = .ok (.ireturn, 1) := by decide +kernel
theorem dc_80_0 : decode cc_80 0 = .ok (.aload_n 0, 1) := by decide +kernel
theorem dc_80_1 : decode cc_80 1 = .ok (.getfield 24, 3) := by decide +kernel
theorem dc_80_4 : decode cc_80 4 = .ok (.getfield 98, 3) := by decide +kernel
theorem dc_80_7 : decode cc_80 7 = .ok (.iload_n 1, 1) := by decide +kernel
theorem dc_80_8 : decode cc_80 8 = .ok (.iaload, 1) := by decide +kernel
theorem dc_80_9 : decode cc_80 9 = .ok (.iconst 1, 1) := by decide +kernel
theorem dc_80_10 : decode cc_80 10 = .ok (.if_icmp .ne (12), 3) := by decide +kernel
theorem dc_80_13 : decode cc_80 13 = .ok (.aload_n 0, 1) := by decide +kernel
theorem dc_80_14 : decode cc_80 14 = .ok (.getfield 28, 3) := by decide +kernel
theorem dc_80_17 : decode cc_80 17 = .ok (.bipush 35, 2) := by decide +kernel
theorem dc_80_19 : decode cc_80 19 = .ok (.invokevirtual 111, 3) := by decide +kernel
theorem dc_80_22 : decode cc_80 22 = .ok (.aload_n 0, 1) := by decide +kernel
theorem dc_80_23 : decode cc_80 23 = .ok (.getfield 28, 3) := by decide +kernel
theorem dc_80_26 : decode cc_80 26 = .ok (.aload_n 0, 1) := by decide +kernel
theorem dc_80_27 : decode cc_80 27 = .ok (.getfield 20, 3) := by decide +kernel
theorem dc_80_30 : decode cc_80 30 = .ok (.aload_n 0, 1) := by decide +kernel
theorem dc_80_31 : decode cc_80 31 = .ok (.getfield 24, 3) := by decide +kernel
theorem dc_80_34 : decode cc_80 34 = .ok (.getfield 122, 3) := by decide +kernel
theorem dc_80_37 : decode cc_80 37 = .ok (.iload_n 1, 1) := by decide +kernel
theorem dc_80_38 : decode cc_80 38 = .ok (.iaload, 1) := by decide +kernel
theorem dc_80_39 : decode cc_80 39 = .ok (.invokevirtual 125, 3) := by decide +kernel
theorem dc_80_42 : decode cc_80 42 = .ok (.invokevirtual 131, 3) := by decide +kernel
theorem dc_80_45 : decode cc_80 45 = .ok (.aload_n 0, 1) := by decide +kernel
theorem dc_80_46 : decode cc_80 46 = .ok (.getfield 28, 3) := by decide +kernel
theorem dc_80_49 : decode cc_80 49 = .ok (.bipush 58, 2) := by decide +kernel
theorem dc_80_51 : decode cc_80 51 = .ok (.invokevirtual 111, 3) := by decide +kernel
theorem dc_80_54 : decode cc_80 54 = .ok (.aload_n 0, 1) := by decide +kernel
theorem dc_80_55 : decode cc_80 55 = .ok (.getfield 28, 3) := by decide +kernel
theorem dc_80_58 : decode cc_80 58 = .ok (.aload_n 0, 1) := by decide +kernel
theorem dc_80_59 : decode cc_80 59 = .ok (.getfield 24, 3) := by decide +kernel
theorem dc_80_62 : decode cc_80 62 = .ok (.getfield 135, 3) := by decide +kernel
theorem dc_80_65 : decode cc_80 65 = .ok (.aload_n 0, 1) := by decide +kernel
theorem dc_80_66 : decode cc_80 66 = .ok (.getfield 24, 3) := by decide +kernel
theorem dc_80_69 : decode cc_80 69 = .ok (.getfield 138, 3) := by decide +kernel
theorem dc_80_72 : decode cc_80 72 = .ok (.iload_n 1, 1) := by decide +kernel
theorem dc_80_73 : decode cc_80 73 = .ok (.iaload, 1) := by decide +kernel
theorem dc_80_74 : decode cc_80 74 = .ok (.aload_n 0, 1) := by decide +kernel
theorem dc_80_75 : decode cc_80 75 = .ok (.getfield 24, 3) := by decide +kernel
theorem dc_80_78 : decode cc_80 78 = .ok (.getfield 141, 3) := by decide +kernel
theorem dc_80_81 : decode cc_80 81 = .ok (.iload_n 1, 1) := by decide +kernel
theorem dc_80_82 : decode cc_80 82 = .ok (.iaload, 1) := by decide +kernel
theorem dc_80_83 : decode cc_80 83 = .ok (.invokevirtual 144, 3) := by decide +kernel
theorem dc_80_86 : decode cc_80 86 = .ok (.return_, 1) := by decide +kernel
theorem dc_81_0 : decode cc_81 0 = .ok (.aload_n 0, 1) := by decide +kernel
theorem dc_81_1 : decode cc_81 1 = .ok (.getfield 14, 3) := by decide +kernel
theorem dc_81_4 : decode cc_81 4 = .ok (.bipush 123, 2) := by decide +kernel
theorem dc_81_6 : decode cc_81 6 = .ok (.invokevirtual 115, 3) := by decide +kernel
theorem dc_81_9 : decode cc_81 9 = .ok (.pop, 1) := by decide +kernel
theorem dc_81_10 : decode cc_81 10 = .ok (.aload_n 0, 1) := by decide +kernel
theorem dc_81_11 : decode cc_81 11 = .ok (.getfield 24, 3) := by decide +kernel
theorem dc_81_14 : decode cc_81 14 = .ok (.iload_n 1, 1) := by decide +kernel
theorem dc_81_15 : decode cc_81 15 = .ok (.invokevirtual 62, 3) := by decide +kernel
theorem dc_81_18 : decode cc_81 18 = .ok (.aload_n 0, 1) := by decide +kernel
theorem dc_81_19 : decode cc_81 19 = .ok (.getfield 28, 3) := by decide +kernel
theorem dc_81_22 : decode cc_81 22 = .ok (.bipush 123, 2) := by decide +kernel
theorem dc_81_24 : decode cc_81 24 = .ok (.invokevirtual 111, 3) := by decide +kernel
theorem dc_81_27 : decode cc_81 27 = .ok (.iconst 0, 1) := by decide +kernel
theorem dc_81_28 : decode cc_81 28 = .ok (.istore_n 2, 1) := by decide +kernel
theorem dc_81_29 : decode cc_81 29 = .ok (.iload_n 2, 1) := by decide +kernel
theorem dc_81_30 : decode cc_81 30 = .ok (.sipush 160, 3) := by decide +kernel
theorem dc_81_33 : decode cc_81 33 = .ok (.if_icmp .ge (61), 3) := by decide +kernel
theorem dc_81_36 : decode cc_81 36 = .ok (.aload_n 0, 1) := by decide +kernel
theorem dc_81_37 : decode cc_81 37 = .ok (.getfield 14, 3) := by decide +kernel
theorem dc_81_40 : decode cc_81 40 = .ok (.bipush 125, 2) := by decide +kernel
theorem dc_81_42 : decode cc_81 42 = .ok (.invokevirtual 66, 3) := by decide +kernel
theorem dc_81_45 : decode cc_81 45 = .ok (.ifCond .ne (49), 3) := by decide +kernel
theorem dc_81_48 : decode cc_81 48 = .ok (.aload_n 0, 1) := by decide +kernel
theorem dc_81_49 : decode cc_81 49 = .ok (.getfield 14, 3) := by decide +kernel
theorem dc_81_52 : decode cc_81 52 = .ok (.iconst 4, 1) := by decide +kernel
theorem dc_81_53 : decode cc_81 53 = .ok (.invokevirtual 66, 3) := by decide +kernel
theorem dc_81_56 : decode cc_81 56 = .ok (.ifCond .ne (20), 3) := by decide +kernel
theorem dc_81_59 : decode cc_81 59 = .ok (.aload_n 0, 1) := by decide +kernel
theorem dc_81_60 : decode cc_81 60 = .ok (.getfield 24, 3) := by decide +kernel
theorem dc_81_63 : decode cc_81 63 = .ok (.aload_n 0, 1) := by decide +kernel
theorem dc_81_64 : decode cc_81 64 = .ok (.getfield 14, 3) := by decide +kernel
theorem dc_81_67 : decode cc_81 67 = .ok (.getfield 76, 3) := by decide +kernel
theorem dc_81_70 : decode cc_81 70 = .ok (.invokevirtual 148, 3) := by decide +kernel
theorem dc_81_73 : decode cc_81 73 = .ok (.ifCond .eq (11), 3) := by decide +kernel
theorem dc_81_76 : decode cc_81 76 = .ok (.aload_n 0, 1) := by decide +kernel
theorem dc_81_77 : decode cc_81 77 = .ok (.iconst 0, 1) := by decide +kernel
theorem dc_81_78 : decode cc_81 78 = .ok (.invokevirtual 70, 3) := by decide +kernel
theorem dc_81_81 : decode cc_81 81 = .ok (.goto (7), 3) := by decide +kernel
theorem dc_81_84 : decode cc_81 84 = .ok (.aload_n 0, 1) := by decide +kernel
theorem dc_81_85 : decode cc_81 85 = .ok (.invokevirtual 151, 3) := by decide +kernel
theorem dc_81_88 : decode cc_81 88 = .ok (.iinc 2 1, 3) := by decide +kernel
theorem dc_81_91 : decode cc_81 91 = .ok (.goto (-62), 3) := by decide +kernel
theorem dc_81_94 : decode cc_81 94 = .ok (.aload_n 0, 1) := by decide +kernel
theorem dc_81_95 : decode cc_81 95 = .ok (.getfield 14, 3) := by decide +kernel
theorem dc_81_98 : decode cc_81 98 = .ok (.bipush 125, 2) := by decide +kernel
theorem dc_81_100 : decode cc_81 100 = .ok (.invokevirtual 115, 3) := by decide +kernel
theorem dc_81_103 : decode cc_81 103 = .ok (.pop, 1) := by decide +kernel
theorem dc_81_104 : decode cc_81 104 = .ok (.aload_n 0, 1) := by decide +kernel
theorem dc_81_105 : decode cc_81 105 = .ok (.getfield 28, 3) := by decide +kernel
theorem dc_81_108 : decode cc_81 108 = .ok (.bipush 125, 2) := by decide +kernel
theorem dc_81_110 : decode cc_81 110 = .ok (.invokevirtual 111, 3) := by decide +kernel
theorem dc_81_113 : decode cc_81 113 = .ok (.aload_n 0, 1) := by decide +kernel
theorem dc_81_114 : decode cc_81 114 = .ok (.getfield 24, 3) := by decide +kernel
theorem dc_81_117 : decode cc_81 117 = .ok (.invokevirtual 154, 3) := by decide +kernel
theorem dc_81_120 : decode cc_81 120 = .ok (.return_, 1) := by decide +kernel
theorem dc_82_0 : decode cc_82 0 = .ok (.aload_n 0, 1) := by decide +kernel
theorem dc_82_1 : decode cc_82 1 = .ok (.getfield 14, 3) := by decide +kernel
theorem dc_82_4 : decode cc_82 4 = .ok (.invokevirtual 157, 3) := by decide +kernel
theorem dc_82_7 : decode cc_82 7 = .ok (.lookupswitch (132) #[(8, 72), (10, 79), (11, 96), (59, 63), (123, 49)], 49) := by decide +kernel
theorem dc_82_56 : decode cc_82 56 = .ok (.aload_n 0, 1) := by decide +kernel
theorem dc_82_57 : decode cc_82 57 = .ok (.aload_n 0, 1) := by decide +kernel
theorem dc_82_58 : decode cc_82 58 = .ok (.getfield 24, 3) := by decide +kernel
theorem dc_82_61 : decode cc_82 61 = .ok (.invokevirtual 56, 3) := by decide +kernel
theorem dc_82_64 : decode cc_82 64 = .ok (.invokevirtual 102, 3) := by decide +kernel
theorem dc_82_67 : decode cc_82 67 = .ok (.goto (85), 3) := by decide +kernel
theorem dc_82_70 : decode cc_82 70 = .ok (.aload_n 0, 1) := by decide +kernel
theorem dc_82_71 : decode cc_82 71 = .ok (.bipush 59, 2) := by decide +kernel
theorem dc_82_73 : decode cc_82 73 = .ok (.invokevirtual 160, 3) := by decide +kernel
theorem dc_82_76 : decode cc_82 76 = .ok (.goto (76), 3) := by decide +kernel
theorem dc_82_79 : decode cc_82 79 = .ok (.aload_n 0, 1) := by decide +kernel
theorem dc_82_80 : decode cc_82 80 = .ok (.invokevirtual 163, 3) := by decide +kernel
theorem dc_82_83 : decode cc_82 83 = .ok (.goto (69), 3) := by decide +kernel
theorem dc_82_86 : decode cc_82 86 = .ok (.aload_n 0, 1) := by decide +kernel
theorem dc_82_87 : decode cc_82 87 = .ok (.getfield 14, 3) := by decide +kernel
theorem dc_82_90 : decode cc_82 90 = .ok (.invokevirtual 105, 3) := by decide +kernel
theorem dc_82_93 : decode cc_82 93 = .ok (.pop, 1) := by decide +kernel
theorem dc_82_94 : decode cc_82 94 = .ok (.aload_n 0, 1) := by decide +kernel
theorem dc_82_95 : decode cc_82 95 = .ok (.bipush 37, 2) := by decide +kernel
theorem dc_82_97 : decode cc_82 97 = .ok (.invokevirtual 166, 3) := by decide +kernel
theorem dc_82_100 : decode cc_82 100 = .ok (.goto (52), 3) := by decide +kernel
theorem dc_82_103 : decode cc_82 103 = .ok (.aload_n 0, 1) := by decide +kernel
theorem dc_82_104 : decode cc_82 104 = .ok (.getfield 14, 3) := by decide +kernel
theorem dc_82_107 : decode cc_82 107 = .ok (.invokevirtual 105, 3) := by decide +kernel
theorem dc_82_110 : decode cc_82 110 = .ok (.pop, 1) := by decide +kernel
theorem dc_82_111 : decode cc_82 111 = .ok (.aload_n 0, 1) := by decide +kernel
theorem dc_82_112 : decode cc_82 112 = .ok (.getfield 14, 3) := by decide +kernel
theorem dc_82_115 : decode cc_82 115 = .ok (.bipush 59, 2) := by decide +kernel
theorem dc_82_117 : decode cc_82 117 = .ok (.invokevirtual 66, 3) := by decide +kernel
theorem dc_82_120 : decode cc_82 120 = .ok (.ifCond .ne (10), 3) := by decide +kernel
theorem dc_82_123 : decode cc_82 123 = .ok (.aload_n 0, 1) := by decide +kernel
theorem dc_82_124 : decode cc_82 124 = .ok (.getfield 46, 3) := by decide +kernel
theorem dc_82_127 : decode cc_82 127 = .ok (.invokevirtual 108, 3) := by decide +kernel
theorem dc_82_130 : decode cc_82 130 = .ok (.aload_n 0, 1) := by decide +kernel
theorem dc_82_131 : decode cc_82 131 = .ok (.bipush 94, 2) := by decide +kernel
theorem dc_82_133 : decode cc_82 133 = .ok (.invokevirtual 160, 3) := by decide +kernel
theorem dc_82_136 : decode cc_82 136 = .ok (.goto (16), 3) := by decide +kernel
theorem dc_82_139 : decode cc_82 139 = .ok (.aload_n 0, 1) := by decide +kernel
theorem dc_82_140 : decode cc_82 140 = .ok (.getfield 46, 3) := by decide +kernel
theorem dc_82_143 : decode cc_82 143 = .ok (.invokevirtual 108, 3) := by decide +kernel
theorem dc_82_146 : decode cc_82 146 = .ok (.aload_n 0, 1) := by decide +kernel
theorem dc_82_147 : decode cc_82 147 = .ok (.bipush 59, 2) := by decide +kernel
theorem dc_82_149 : decode cc_82 149 = .ok (.invokevirtual 160, 3) := by decide +kernel
theorem dc_82_152 : decode cc_82 152 = .ok (.return_, 1) := by decide +kernel
theorem dc_83_0 : decode cc_83 0 = .ok (.aload_n 0, 1) := by decide +kernel
theorem dc_83_1 : decode cc_83 1 = .ok (.getfield 14, 3) := by decide +kernel
theorem dc_83_4 : decode cc_83 4 = .ok (.bipush 59, 2) := by decide +kernel
theorem dc_83_6 : decode cc_83 6 = .ok (.invokevirtual 115, 3) := by decide +kernel
theorem dc_83_9 : decode cc_83 9 = .ok (.pop, 1) := by decide +kernel
theorem dc_83_10 : decode cc_83 10 = .ok (.aload_n 0, 1) := by decide +kernel
theorem dc_83_11 : decode cc_83 11 = .ok (.getfield 28, 3) := by decide +kernel
theorem dc_83_14 : decode cc_83 14 = .ok (.iload_n 1, 1) := by decide +kernel
theorem dc_83_15 : decode cc_83 15 = .ok (.invokevirtual 111, 3) := by decide +kernel
theorem dc_83_18 : decode cc_83 18 = .ok (.return_, 1) := by decide +kernel
theorem dc_84_0 : decode cc_84 0 = .ok (.aload_n 0, 1) := by decide +kernel
theorem dc_84_1 : decode cc_84 1 = .ok (.getfield 14, 3) := by decide +kernel
theorem dc_84_4 : decode cc_84 4 = .ok (.bipush 8, 2) := by decide +kernel
theorem dc_84_6 : decode cc_84 6 = .ok (.invokevirtual 115, 3) := by decide +kernel
theorem dc_84_9 : decode cc_84 9 = .ok (.pop, 1) := by decide +kernel
theorem dc_84_10 : decode cc_84 10 = .ok (.aload_n 0, 1) := by decide +kernel
theorem dc_84_11 : decode cc_84 11 = .ok (.bipush 63, 2) := by decide +kernel
theorem dc_84_13 : decode cc_84 13 = .ok (.invokevirtual 166, 3) := by decide +kernel
theorem dc_84_16 : decode cc_84 16 = .ok (.aload_n 0, 1) := by decide +kernel
theorem dc_84_17 : decode cc_84 17 = .ok (.getfield 14, 3) := by decide +kernel
theorem dc_84_20 : decode cc_84 20 = .ok (.bipush 9, 2) := by decide +kernel
theorem dc_84_22 : decode cc_84 22 = .ok (.invokevirtual 66, 3) := by decide +kernel
theorem dc_84_25 : decode cc_84 25 = .ok (.ifCond .eq (31), 3) := by decide +kernel
theorem dc_84_28 : decode cc_84 28 = .ok (.aload_n 0, 1) := by decide +kernel
theorem dc_84_29 : decode cc_84 29 = .ok (.getfield 14, 3) := by decide +kernel
theorem dc_84_32 : decode cc_84 32 = .ok (.invokevirtual 105, 3) := by decide +kernel
theorem dc_84_35 : decode cc_84 35 = .ok (.pop, 1) := by decide +kernel
theorem dc_84_36 : decode cc_84 36 = .ok (.aload_n 0, 1) := by decide +kernel
theorem dc_84_37 : decode cc_84 37 = .ok (.getfield 28, 3) := by decide +kernel
theorem dc_84_40 : decode cc_84 40 = .ok (.bipush 58, 2) := by decide +kernel
theorem dc_84_42 : decode cc_84 42 = .ok (.invokevirtual 111, 3) := by decide +kernel
theorem dc_84_45 : decode cc_84 45 = .ok (.aload_n 0, 1) := by decide +kernel
theorem dc_84_46 : decode cc_84 46 = .ok (.invokevirtual 151, 3) := by decide +kernel
theorem dc_84_49 : decode cc_84 49 = .ok (.aload_n 0, 1) := by decide +kernel
theorem dc_84_50 : decode cc_84 50 = .ok (.getfield 14, 3) := by decide +kernel
theorem dc_84_53 : decode cc_84 53 = .ok (.invokevirtual 169, 3) := by decide +kernel
theorem dc_84_56 : decode cc_84 56 = .ok (.return_, 1) := by decide +kernel
theorem dc_85_0 : decode cc_85 0 = .ok (.aload_n 0, 1) := by decide +kernel
theorem dc_85_1 : decode cc_85 1 = .ok (.getfield 14, 3) := by decide +kernel
theorem dc_85_4 : decode cc_85 4 = .ok (.bipush 40, 2) := by decide +kernel
theorem dc_85_6 : decode cc_85 6 = .ok (.invokevirtual 115, 3) := by decide +kernel
theorem dc_85_9 : decode cc_85 9 = .ok (.pop, 1) := by decide +kernel
theorem dc_85_10 : decode cc_85 10 = .ok (.aload_n 0, 1) := by decide +kernel
theorem dc_85_11 : decode cc_85 11 = .ok (.getfield 46, 3) := by decide +kernel
theorem dc_85_14 : decode cc_85 14 = .ok (.invokevirtual 108, 3) := by decide +kernel
theorem dc_85_17 : decode cc_85 17 = .ok (.aload_n 0, 1) := by decide +kernel
theorem dc_85_18 : decode cc_85 18 = .ok (.getfield 14, 3) := by decide +kernel
theorem dc_85_21 : decode cc_85 21 = .ok (.bipush 41, 2) := by decide +kernel
theorem dc_85_23 : decode cc_85 23 = .ok (.invokevirtual 115, 3) := by decide +kernel
theorem dc_85_26 : decode cc_85 26 = .ok (.pop, 1) := by decide +kernel
theorem dc_85_27 : decode cc_85 27 = .ok (.aload_n 0, 1) := by decide +kernel
theorem dc_85_28 : decode cc_85 28 = .ok (.getfield 28, 3) := by decide +kernel
theorem dc_85_31 : decode cc_85 31 = .ok (.iload_n 1, 1) := by decide +kernel
theorem dc_85_32 : decode cc_85 32 = .ok (.invokevirtual 111, 3) := by decide +kernel
theorem dc_85_35 : decode cc_85 35 = .ok (.aload_n 0, 1) := by decide +kernel
theorem dc_85_36 : decode cc_85 36 = .ok (.invokevirtual 151, 3) := by decide +kernel
theorem dc_85_39 : decode cc_85 39 = .ok (.aload_n 0, 1) := by decide +kernel
theorem dc_85_40 : decode cc_85 40 = .ok (.getfield 14, 3) := by decide +kernel
theorem dc_85_43 : decode cc_85 43 = .ok (.invokevirtual 169, 3) := by decide +kernel
theorem dc_85_46 : decode cc_85 46 = .ok (.return_, 1) := by decide +kernel
theorem dc_86_0 : decode cc_86 0 = .ok (.lconst 0, 1) := by decide +kernel
theorem dc_86_1 : decode cc_86 1 = .ok (.lstore_n 1, 1) := by decide +kernel
theorem dc_86_2 : decode cc_86 2 = .ok (.iconst 0, 1) := by decide +kernel
theorem dc_86_3 : decode cc_86 3 = .ok (.istore_n 3, 1) := by decide +kernel
theorem dc_86_4 : decode cc_86 4 = .ok (.iload_n 3, 1) := by decide +kernel
theorem dc_86_5 : decode cc_86 5 = .ok (.aload_n 0, 1) := by decide +kernel
theorem dc_86_6 : decode cc_86 6 = .ok (.invokevirtual 85, 3) := by decide +kernel
theorem dc_86_9 : decode cc_86 9 = .ok (.if_icmp .ge (23), 3) := by decide +kernel
theorem dc_86_12 : decode cc_86 12 = .ok (.lload_n 1, 1) := by decide +kernel
theorem dc_86_13 : decode cc_86 13 = .ok (.aload_n 0, 1) := by decide +kernel
theorem dc_86_14 : decode cc_86 14 = .ok (.iload_n 3, 1) := by decide +kernel
theorem dc_86_15 : decode cc_86 15 = .ok (.invokevirtual 89, 3) := by decide +kernel
theorem dc_86_18 : decode cc_86 18 = .ok (.i2l, 1) := by decide +kernel
theorem dc_86_19 : decode cc_86 19 = .ok (.bipush 8, 2) := by decide +kernel
theorem dc_86_21 : decode cc_86 21 = .ok (.iload_n 3, 1) := by decide +kernel
theorem dc_86_22 : decode cc_86 22 = .ok (.imul, 1) := by decide +kernel
theorem dc_86_23 : decode cc_86 23 = .ok (.lshl, 1) := by decide +kernel
theorem dc_86_24 : decode cc_86 24 = .ok (.lor, 1) := by decide +kernel
theorem dc_86_25 : decode cc_86 25 = .ok (.lstore_n 1, 1) := by decide +kernel
theorem dc_86_26 : decode cc_86 26 = .ok (.iinc 3 1, 3) := by decide +kernel
theorem dc_86_29 : decode cc_86 29 = .ok (.goto (-25), 3) := by decide +kernel
theorem dc_86_32 : decode cc_86 32 = .ok (.lload_n 1, 1) := by decide +kernel
theorem dc_86_33 : decode cc_86 33 = .ok (.lreturn, 1) := by decide +kernel
theorem dc_87_0 : decode cc_87 0 = .ok (.aload_n 0, 1) := by decide +kernel
theorem dc_87_1 : decode cc_87 1 = .ok (.iload_n 1, 1) := by decide +kernel
theorem dc_87_2 : decode cc_87 2 = .ok (.iconst 0, 1) := by decide +kernel
theorem dc_87_3 : decode cc_87 3 = .ok (.invokevirtual 633, 3) := by decide +kernel
theorem dc_87_6 : decode cc_87 6 = .ok (.ireturn, 1) := by decide +kernel
theorem dc_88_0 : decode cc_88 0 = .ok (.aload_n 0, 1) := by decide +kernel
theorem dc_88_1 : decode cc_88 1 = .ok (.invokevirtual 492, 3) := by decide +kernel
theorem dc_88_4 : decode cc_88 4 = .ok (.ifCond .eq (19), 3) := by decide +kernel
theorem dc_88_7 : decode cc_88 7 = .ok (.aload_n 0, 1) := by decide +kernel
theorem dc_88_8 : decode cc_88 8 = .ok (.getfield 9, 3) := by decide +kernel
theorem dc_88_11 : decode cc_88 11 = .ok (.iload_n 1, 1) := by decide +kernel
theorem dc_88_12 : decode cc_88 12 = .ok (.iload_n 2, 1) := by decide +kernel
theorem dc_88_13 : decode cc_88 13 = .ok (.aload_n 0, 1) := by decide +kernel
theorem dc_88_14 : decode cc_88 14 = .ok (.invokevirtual 505, 3) := by decide +kernel
theorem dc_88_17 : decode cc_88 17 = .ok (.invokestatic 637, 3) := by decide +kernel
theorem dc_88_20 : decode cc_88 20 = .ok (.goto (16), 3) := by decide +kernel
theorem dc_88_36 : decode cc_88 36 = .ok (.ireturn, 1) := by decide +kernel
theorem dc_89_0 : decode cc_89 0 = .ok (.getstatic 38, 3) := by decide +kernel
theorem dc_89_3 : decode cc_89 3 = .ok (.ifCond .eq (14), 3) := by decide +kernel
theorem dc_89_6 : decode cc_89 6 = .ok (.aload_n 0, 1) := by decide +kernel
theorem dc_89_7 : decode cc_89 7 = .ok (.getfield 15, 3) := by decide +kernel
theorem dc_89_10 : decode cc_89 10 = .ok (.ifCond .ne (7), 3) := by decide +kernel
theorem dc_89_13 : decode cc_89 13 = .ok (.iconst 1, 1) := by decide +kernel
theorem dc_89_14 : decode cc_89 14 = .ok (.goto (4), 3) := by decide +kernel
theorem dc_89_17 : decode cc_89 17 = .ok (.iconst 0, 1) := by decide +kernel
theorem dc_89_18 : decode cc_89 18 = .ok (.ireturn, 1) := by decide +kernel
theorem dc_90_0 : decode cc_90 0 = .ok (.aload_n 0, 1) := by decide +kernel
theorem dc_90_1 : decode cc_90 1 = .ok (.getfield 9, 3) := by decide +kernel
theorem dc_90_4 : decode cc_90 4 = .ok (.arraylength, 1) := by decide +kernel
theorem dc_90_5 : decode cc_90 5 = .ok (.aload_n 0, 1) := by decide +kernel
theorem dc_90_6 : decode cc_90 6 = .ok (.invokevirtual 335, 3) := by decide +kernel
theorem dc_90_9 : decode cc_90 9 = .ok (.ishr, 1) := by decide +kernel
theorem dc_90_10 : decode cc_90 10 = .ok (.ireturn, 1) := by decide +kernel
theorem dc_91_0 : decode cc_91 0 = .ok (.getstatic 38, 3) := by decide +kernel
theorem dc_91_3 : decode cc_91 3 = .ok (.ifCond .eq (10), 3) := by decide +kernel
theorem dc_91_6 : decode cc_91 6 = .ok (.aload_n 0, 1) := by decide +kernel
theorem dc_91_7 : decode cc_91 7 = .ok (.getfield 15, 3) := by decide +kernel
theorem dc_91_10 : decode cc_91 10 = .ok (.goto (4), 3) := by decide +kernel
theorem dc_91_13 : decode cc_91 13 = .ok (.iconst 1, 1) := by decide +kernel
theorem dc_91_14 : decode cc_91 14 = .ok (.ireturn, 1) := by decide +kernel
theorem dc_92_0 : decode cc_92 0 = .ok (.aload_n 0, 1) := by decide +kernel
theorem dc_92_1 : decode cc_92 1 = .ok (.invokevirtual 492, 3) := by decide +kernel
theorem dc_92_4 : decode cc_92 4 = .ok (.ifCond .eq (12), 3) := by decide +kernel
theorem dc_92_7 : decode cc_92 7 = .ok (.aload_n 0, 1) := by decide +kernel
theorem dc_92_8 : decode cc_92 8 = .ok (.getfield 9, 3) := by decide +kernel
theorem dc_92_11 : decode cc_92 11 = .ok (.iload_n 1, 1) := by decide +kernel
theorem dc_92_12 : decode cc_92 12 = .ok (.invokestatic 495, 3) := by decide +kernel
theorem dc_92_15 : decode cc_92 15 = .ok (.ireturn, 1) := by decide +kernel
theorem dc_93_0 : decode cc_93 0 = .ok (.iload_n 0, 1) := by decide +kernel
theorem dc_93_1 : decode cc_93 1 = .ok (.iload_n 1, 1) := by decide +kernel
theorem dc_93_2 : decode cc_93 2 = .ok (.getstatic 1053, 3) := by decide +kernel
theorem dc_93_5 : decode cc_93 5 = .ok (.invokestatic 1059, 3) := by decide +kernel
theorem dc_93_8 : decode cc_93 8 = .ok (.pop, 1) := by decide +kernel
theorem dc_93_9 : decode cc_93 9 = .ok (.return_, 1) := by decide +kernel
theorem dc_94_0 : decode cc_94 0 = .ok (.iload_n 1, 1) := by decide +kernel
theorem dc_94_1 : decode cc_94 1 = .ok (.invokestatic 88, 3) := by decide +kernel
theorem dc_94_4 : decode cc_94 4 = .ok (.ifCond .ne (5), 3) := by decide +kernel
theorem dc_94_7 : decode cc_94 7 = .ok (.iconst (-1), 1) := by decide +kernel
theorem dc_94_8 : decode cc_94 8 = .ok (.ireturn, 1) := by decide +kernel
theorem dc_94_9 : decode cc_94 9 = .ok (.iload_n 2, 1) := by decide +kernel
theorem dc_94_10 : decode cc_94 10 = .ok (.iconst 0, 1) := by decide +kernel
theorem dc_94_11 : decode cc_94 11 = .ok (.invokestatic 92, 3) := by decide +kernel
theorem dc_94_14 : decode cc_94 14 = .ok (.istore_n 2, 1) := by decide +kernel
theorem dc_94_15 : decode cc_94 15 = .ok (.iload_n 3, 1) := by decide +kernel
theorem dc_94_16 : decode cc_94 16 = .ok (.aload_n 0, 1) := by decide +kernel
theorem dc_94_17 : decode cc_94 17 = .ok (.arraylength, 1) := by decide +kernel
theorem dc_94_18 : decode cc_94 18 = .ok (.invokestatic 38, 3) := by decide +kernel
theorem dc_94_21 : decode cc_94 21 = .ok (.istore_n 3, 1) := by decide +kernel
theorem dc_94_22 : decode cc_94 22 = .ok (.iload_n 2, 1) := by decide +kernel
theorem dc_94_23 : decode cc_94 23 = .ok (.iload_n 3, 1) := by decide +kernel
theorem dc_94_24 : decode cc_94 24 = .ok (.if_icmp .lt (5), 3) := by decide +kernel
theorem dc_94_27 : decode cc_94 27 = .ok (.iconst (-1), 1) := by decide +kernel
theorem dc_94_28 : decode cc_94 28 = .ok (.ireturn, 1) := by decide +kernel
theorem dc_94_29 : decode cc_94 29 = .ok (.aload_n 0, 1) := by decide +kernel
theorem dc_94_30 : decode cc_94 30 = .ok (.iload_n 1, 1) := by decide +kernel
theorem dc_94_31 : decode cc_94 31 = .ok (.iload_n 2, 1) := by decide +kernel
theorem dc_94_32 : decode cc_94 32 = .ok (.iload_n 3, 1) := by decide +kernel
theorem dc_94_33 : decode cc_94 33 = .ok (.invokestatic 95, 3) := by decide +kernel
theorem dc_94_36 : decode cc_94 36 = .ok (.ireturn, 1) := by decide +kernel
theorem dc_95_0 : decode cc_95 0 = .ok (.iload_n 0, 1) := by decide +kernel
theorem dc_95_1 : decode cc_95 1 = .ok (.ifCond .lt (14), 3) := by decide +kernel
theorem dc_95_4 : decode cc_95 4 = .ok (.iload_n 0, 1) := by decide +kernel
theorem dc_95_5 : decode cc_95 5 = .ok (.sipush 255, 3) := by decide +kernel
theorem dc_95_8 : decode cc_95 8 = .ok (.if_icmp .gt (7), 3) := by decide +kernel
theorem dc_95_11 : decode cc_95 11 = .ok (.iconst 1, 1) := by decide +kernel
theorem dc_95_12 : decode cc_95 12 = .ok (.goto (4), 3) := by decide +kernel
theorem dc_95_15 : decode cc_95 15 = .ok (.iconst 0, 1) := by decide +kernel
theorem dc_95_16 : decode cc_95 16 = .ok (.ireturn, 1) := by decide +kernel
theorem dc_96_0 : decode cc_96 0 = .ok (.iload_n 1, 1) := by decide +kernel
theorem dc_96_1 : decode cc_96 1 = .ok (.i2b, 1) := by decide +kernel
theorem dc_96_2 : decode cc_96 2 = .ok (.istore 4, 2) := by decide +kernel
theorem dc_96_4 : decode cc_96 4 = .ok (.iload_n 2, 1) := by decide +kernel
theorem dc_96_5 : decode cc_96 5 = .ok (.istore 5, 2) := by decide +kernel
theorem dc_96_7 : decode cc_96 7 = .ok (.iload 5, 2) := by decide +kernel
theorem dc_96_9 : decode cc_96 9 = .ok (.iload_n 3, 1) := by decide +kernel
theorem dc_96_10 : decode cc_96 10 = .ok (.if_icmp .ge (21), 3) := by decide +kernel
theorem dc_96_13 : decode cc_96 13 = .ok (.aload_n 0, 1) := by decide +kernel
theorem dc_96_14 : decode cc_96 14 = .ok (.iload 5, 2) := by decide +kernel
theorem dc_96_16 : decode cc_96 16 = .ok (.baload, 1) := by decide +kernel
theorem dc_96_17 : decode cc_96 17 = .ok (.iload 4, 2) := by decide +kernel
theorem dc_96_19 : decode cc_96 19 = .ok (.if_icmp .ne (6), 3) := by decide +kernel
theorem dc_96_22 : decode cc_96 22 = .ok (.iload 5, 2) := by decide +kernel
theorem dc_96_24 : decode cc_96 24 = .ok (.ireturn, 1) := by decide +kernel
theorem dc_96_25 : decode cc_96 25 = .ok (.iinc 5 1, 3) := by decide +kernel
theorem dc_96_28 : decode cc_96 28 = .ok (.goto (-21), 3) := by decide +kernel
theorem dc_96_31 : decode cc_96 31 = .ok (.iconst (-1), 1) := by decide +kernel
theorem dc_96_32 : decode cc_96 32 = .ok (.ireturn, 1) := by decide +kernel
theorem dc_97_0 : decode cc_97 0 = .ok (.iload_n 1, 1) := by decide +kernel
theorem dc_97_1 : decode cc_97 1 = .ok (.aload_n 0, 1) := by decide +kernel
theorem dc_97_2 : decode cc_97 2 = .ok (.arraylength, 1) := by decide +kernel
theorem dc_97_3 : decode cc_97 3 = .ok (.invokestatic 9, 3) := by decide +kernel
theorem dc_97_6 : decode cc_97 6 = .ok (.aload_n 0, 1) := by decide +kernel
theorem dc_97_7 : decode cc_97 7 = .ok (.iload_n 1, 1) := by decide +kernel
theorem dc_97_8 : decode cc_97 8 = .ok (.baload, 1) := by decide +kernel
theorem dc_97_9 : decode cc_97 9 = .ok (.sipush 255, 3) := by decide +kernel
theorem dc_97_12 : decode cc_97 12 = .ok (.iand, 1) := by decide +kernel
theorem dc_97_13 : decode cc_97 13 = .ok (.i2c, 1) := by decide +kernel
theorem dc_97_14 : decode cc_97 14 = .ok (.ireturn, 1) := by decide +kernel
theorem dc_98_0 : decode cc_98 0 = .ok (.iload_n 0, 1) := by decide +kernel
theorem dc_98_1 : decode cc_98 1 = .ok (.iload_n 1, 1) := by decide +kernel
theorem dc_98_2 : decode cc_98 2 = .ok (.if_icmp .lt (7), 3) := by decide +kernel
theorem dc_98_5 : decode cc_98 5 = .ok (.iload_n 0, 1) := by decide +kernel
theorem dc_98_6 : decode cc_98 6 = .ok (.goto (4), 3) := by decide +kernel
theorem dc_98_9 : decode cc_98 9 = .ok (.iload_n 1, 1) := by decide +kernel
theorem dc_98_10 : decode cc_98 10 = .ok (.ireturn, 1) := by decide +kernel
theorem dc_99_0 : decode cc_99 0 = .ok (.iload_n 0, 1) := by decide +kernel
theorem dc_99_1 : decode cc_99 1 = .ok (.ifCond .lt (8), 3) := by decide +kernel
theorem dc_99_4 : decode cc_99 4 = .ok (.iload_n 0, 1) := by decide +kernel
theorem dc_99_5 : decode cc_99 5 = .ok (.iload_n 1, 1) := by decide +kernel
theorem dc_99_6 : decode cc_99 6 = .ok (.if_icmp .lt (10), 3) := by decide +kernel
theorem dc_99_16 : decode cc_99 16 = .ok (.iload_n 0, 1) := by decide +kernel
theorem dc_99_17 : decode cc_99 17 = .ok (.ireturn, 1) := by decide +kernel
