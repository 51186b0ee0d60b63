theorem kc_0_0 : ja_code tc_0 0 = js_iload 3 1 := rfl
theorem kc_0_1 : ja_code tc_0 1 = js_ic 1 2 := rfl
theorem kc_0_2 : ja_code tc_0 2 = js_ic2 (fun x y => x < y) 23 5 := rfl
theorem kc_0_5 : ja_code tc_0 5 = js_iload 3 6 := rfl
theorem kc_0_6 : ja_code tc_0 6 = js_ic 8 8 := rfl
theorem kc_0_8 : ja_code tc_0 8 = js_ic2 (fun x y => y < x) 23 11 := rfl
theorem kc_0_11 : ja_code tc_0 11 = js_aload 0 12 := rfl
theorem kc_0_12 : ja_code tc_0 12 = js_get jl_c 1 1 15 := rfl
theorem kc_0_15 : ja_code tc_0 15 = js_iload 3 16 := rfl
theorem kc_0_16 : ja_code tc_0 16 = js_ib (fun x y => x + y) 17 := rfl
theorem kc_0_17 : ja_code tc_0 17 = js_ic 160 20 := rfl
theorem kc_0_20 : ja_code tc_0 20 = js_ic2 (fun x y => x ≤ y) 25 23 := rfl
theorem kc_0_23 : ja_code tc_0 23 = js_ic 0 24 := rfl
theorem kc_0_24 : ja_code tc_0 24 = js_zret := rfl
theorem kc_0_25 : ja_code tc_0 25 = js_ic 0 26 := rfl
theorem kc_0_26 : ja_code tc_0 26 = js_istore 4 28 := rfl
theorem kc_0_28 : ja_code tc_0 28 = js_iload 4 30 := rfl
theorem kc_0_30 : ja_code tc_0 30 = js_iload 3 31 := rfl
theorem kc_0_31 : ja_code tc_0 31 = js_ic2 (fun x y => y ≤ x) 54 34 := rfl
theorem kc_0_34 : ja_code tc_0 34 = js_lload 1 35 := rfl
theorem kc_0_35 : ja_code tc_0 35 = js_iload 4 37 := rfl
theorem kc_0_37 : ja_code tc_0 37 = js_cs 12 2 40 := rfl
theorem kc_0_40 : ja_code tc_0 40 = js_cs 13 1 43 := rfl
theorem kc_0_43 : ja_code tc_0 43 = js_if (fun x => x = 0) 46 48 := rfl
theorem kc_0_46 : ja_code tc_0 46 = js_ic 0 47 := rfl
theorem kc_0_47 : ja_code tc_0 47 = js_zret := rfl
theorem kc_0_48 : ja_code tc_0 48 = js_iinc 4 1 51 := rfl
theorem kc_0_51 : ja_code tc_0 51 = js_goto 28 := rfl
theorem kc_0_54 : ja_code tc_0 54 = js_ic 0 55 := rfl
theorem kc_0_55 : ja_code tc_0 55 = js_istore 4 57 := rfl
theorem kc_0_57 : ja_code tc_0 57 = js_iload 4 59 := rfl
theorem kc_0_59 : ja_code tc_0 59 = js_iload 3 60 := rfl
theorem kc_0_60 : ja_code tc_0 60 = js_ic2 (fun x y => y ≤ x) 94 63 := rfl
theorem kc_0_63 : ja_code tc_0 63 = js_aload 0 64 := rfl
theorem kc_0_64 : ja_code tc_0 64 = js_get jl_c 1 0 67 := rfl
theorem kc_0_67 : ja_code tc_0 67 = js_aload 0 68 := rfl
theorem kc_0_68 : ja_code tc_0 68 = js_get jl_c 1 1 71 := rfl
theorem kc_0_71 : ja_code tc_0 71 = js_lload 1 72 := rfl
theorem kc_0_72 : ja_code tc_0 72 = js_iload 4 74 := rfl
theorem kc_0_74 : ja_code tc_0 74 = js_cs 12 2 77 := rfl
theorem kc_0_77 : ja_code tc_0 77 = js_cst jl_c 78 := rfl
theorem kc_0_78 : ja_code tc_0 78 = js_aload 0 79 := rfl
theorem kc_0_79 : ja_code tc_0 79 = js_dup 80 := rfl
theorem kc_0_80 : ja_code tc_0 80 = js_get jl_c 1 1 83 := rfl
theorem kc_0_83 : ja_code tc_0 83 = js_ic 1 84 := rfl
theorem kc_0_84 : ja_code tc_0 84 = js_ib (fun x y => x + y) 85 := rfl
theorem kc_0_85 : ja_code tc_0 85 = js_put jl_c 1 1 88 := rfl
theorem kc_0_88 : ja_code tc_0 88 = js_iinc 4 1 91 := rfl
theorem kc_0_91 : ja_code tc_0 91 = js_goto 57 := rfl
theorem kc_0_94 : ja_code tc_0 94 = js_ic 1 95 := rfl
theorem kc_0_95 : ja_code tc_0 95 = js_zret := rfl
theorem kc_1_0 : ja_code tc_1 0 = js_iload 1 1 := rfl
theorem kc_1_1 : ja_code tc_1 1 = js_if (fun x => x < 0) 12 4 := rfl
theorem kc_1_4 : ja_code tc_1 4 = js_iload 1 5 := rfl
theorem kc_1_5 : ja_code tc_1 5 = js_aload 0 6 := rfl
theorem kc_1_6 : ja_code tc_1 6 = js_get jl_c 1 1 9 := rfl
theorem kc_1_9 : ja_code tc_1 9 = js_ic2 (fun x y => x ≤ y) 14 12 := rfl
theorem kc_1_12 : ja_code tc_1 12 = js_ic 0 13 := rfl
theorem kc_1_13 : ja_code tc_1 13 = js_zret := rfl
theorem kc_1_14 : ja_code tc_1 14 = js_aload 0 15 := rfl
theorem kc_1_15 : ja_code tc_1 15 = js_iload 1 16 := rfl
theorem kc_1_16 : ja_code tc_1 16 = js_put jl_c 1 1 19 := rfl
theorem kc_1_19 : ja_code tc_1 19 = js_ic 1 20 := rfl
theorem kc_1_20 : ja_code tc_1 20 = js_zret := rfl
theorem kc_2_0 : ja_code tc_2 0 = js_aload 0 1 := rfl
theorem kc_2_1 : ja_code tc_2 1 = js_get jl_c 1 4 4 := rfl
theorem kc_2_4 : ja_code tc_2 4 = js_aload 0 5 := rfl
theorem kc_2_5 : ja_code tc_2 5 = js_get jl_c 1 0 8 := rfl
theorem kc_2_8 : ja_code tc_2 8 = js_aload 0 9 := rfl
theorem kc_2_9 : ja_code tc_2 9 = js_get jl_c 1 1 12 := rfl
theorem kc_2_12 : ja_code tc_2 12 = js_cv jl_c 3 24 2 15 := rfl
theorem kc_2_15 : ja_code tc_2 15 = js_aload 0 16 := rfl
theorem kc_2_16 : ja_code tc_2 16 = js_aload 0 17 := rfl
theorem kc_2_17 : ja_code tc_2 17 = js_get jl_c 1 7 20 := rfl
theorem kc_2_20 : ja_code tc_2 20 = js_cv jl_c 8 76 0 23 := rfl
theorem kc_2_23 : ja_code tc_2 23 = js_put jl_c 1 3 26 := rfl
theorem kc_2_26 : ja_code tc_2 26 = js_aload 0 27 := rfl
theorem kc_2_27 : ja_code tc_2 27 = js_get jl_c 1 3 30 := rfl
theorem kc_2_30 : ja_code tc_2 30 = js_ic (-1) 31 := rfl
theorem kc_2_31 : ja_code tc_2 31 = js_ic2 (fun x y => x = y) 47 34 := rfl
theorem kc_2_34 : ja_code tc_2 34 = js_aload 0 35 := rfl
theorem kc_2_35 : ja_code tc_2 35 = js_ic 0 36 := rfl
theorem kc_2_36 : ja_code tc_2 36 = js_put jl_c 1 2 39 := rfl
theorem kc_2_39 : ja_code tc_2 39 = js_thr 0 := rfl
theorem kc_2_47 : ja_code tc_2 47 = js_aload 0 48 := rfl
theorem kc_2_48 : ja_code tc_2 48 = js_aload 0 49 := rfl
theorem kc_2_49 : ja_code tc_2 49 = js_get jl_c 1 4 52 := rfl
theorem kc_2_52 : ja_code tc_2 52 = js_get jl_c 3 2 55 := rfl
theorem kc_2_55 : ja_code tc_2 55 = js_put jl_c 1 2 58 := rfl
theorem kc_2_58 : ja_code tc_2 58 = js_aload 0 59 := rfl
theorem kc_2_59 : ja_code tc_2 59 = js_get jl_c 1 2 62 := rfl
theorem kc_2_62 : ja_code tc_2 62 = js_iret := rfl
theorem kc_3_0 : ja_code tc_3 0 = js_aload 0 1 := rfl
theorem kc_3_1 : ja_code tc_3 1 = js_get jl_c 1 3 4 := rfl
theorem kc_3_4 : ja_code tc_3 4 = js_iret := rfl
theorem kc_4_0 : ja_code tc_4 0 = js_aload 0 1 := rfl
theorem kc_4_1 : ja_code tc_4 1 = js_iload 1 2 := rfl
theorem kc_4_2 : ja_code tc_4 2 = js_cv jl_c 1 11 1 5 := rfl
theorem kc_4_5 : ja_code tc_4 5 = js_if (fun x => x = 0) 20 8 := rfl
theorem kc_4_8 : ja_code tc_4 8 = js_aload 0 9 := rfl
theorem kc_4_9 : ja_code tc_4 9 = js_get jl_c 1 5 12 := rfl
theorem kc_4_12 : ja_code tc_4 12 = js_get jl_c 5 2 15 := rfl
theorem kc_4_15 : ja_code tc_4 15 = js_iload 1 16 := rfl
theorem kc_4_16 : ja_code tc_4 16 = js_ald jl_c 0 17 := rfl
theorem kc_4_17 : ja_code tc_4 17 = js_goto 21 := rfl
theorem kc_4_20 : ja_code tc_4 20 = js_ic (-1) 21 := rfl
theorem kc_4_21 : ja_code tc_4 21 = js_iret := rfl
theorem kc_5_0 : ja_code tc_5 0 = js_aload 0 1 := rfl
theorem kc_5_1 : ja_code tc_5 1 = js_iload 1 2 := rfl
theorem kc_5_2 : ja_code tc_5 2 = js_cv jl_c 1 11 1 5 := rfl
theorem kc_5_5 : ja_code tc_5 5 = js_if (fun x => x = 0) 20 8 := rfl
theorem kc_5_8 : ja_code tc_5 8 = js_aload 0 9 := rfl
theorem kc_5_9 : ja_code tc_5 9 = js_get jl_c 1 5 12 := rfl
theorem kc_5_12 : ja_code tc_5 12 = js_get jl_c 5 3 15 := rfl
theorem kc_5_15 : ja_code tc_5 15 = js_iload 1 16 := rfl
theorem kc_5_16 : ja_code tc_5 16 = js_ald jl_c 0 17 := rfl
theorem kc_5_17 : ja_code tc_5 17 = js_goto 21 := rfl
theorem kc_5_20 : ja_code tc_5 20 = js_ic (-1) 21 := rfl
theorem kc_5_21 : ja_code tc_5 21 = js_iret := rfl
theorem kc_6_0 : ja_code tc_6 0 = js_aload 0 1 := rfl
theorem kc_6_1 : ja_code tc_6 1 = js_get jl_c 1 5 4 := rfl
theorem kc_6_4 : ja_code tc_6 4 = js_get jl_c 5 4 7 := rfl
theorem kc_6_7 : ja_code tc_6 7 = js_iret := rfl
theorem kc_7_0 : ja_code tc_7 0 = js_iload 1 1 := rfl
theorem kc_7_1 : ja_code tc_7 1 = js_aload 0 2 := rfl
theorem kc_7_2 : ja_code tc_7 2 = js_get jl_c 1 5 5 := rfl
theorem kc_7_5 : ja_code tc_7 5 = js_get jl_c 5 4 8 := rfl
theorem kc_7_8 : ja_code tc_7 8 = js_xs 14 2 11 := rfl
theorem kc_7_11 : ja_code tc_7 11 = js_iload 2 12 := rfl
theorem kc_7_12 : ja_code tc_7 12 = js_sw [(0, 44), (1, 54), (2, 64), (3, 84)] 94 := rfl
theorem kc_7_44 : ja_code tc_7 44 = js_aload 0 45 := rfl
theorem kc_7_45 : ja_code tc_7 45 = js_get jl_c 1 5 48 := rfl
theorem kc_7_48 : ja_code tc_7 48 = js_get jl_c 5 5 51 := rfl
theorem kc_7_51 : ja_code tc_7 51 = js_iload 1 52 := rfl
theorem kc_7_52 : ja_code tc_7 52 = js_ald jl_c 0 53 := rfl
theorem kc_7_53 : ja_code tc_7 53 = js_iret := rfl
theorem kc_7_54 : ja_code tc_7 54 = js_aload 0 55 := rfl
theorem kc_7_55 : ja_code tc_7 55 = js_get jl_c 1 5 58 := rfl
theorem kc_7_58 : ja_code tc_7 58 = js_get jl_c 5 6 61 := rfl
theorem kc_7_61 : ja_code tc_7 61 = js_iload 1 62 := rfl
theorem kc_7_62 : ja_code tc_7 62 = js_ald jl_c 0 63 := rfl
theorem kc_7_63 : ja_code tc_7 63 = js_iret := rfl
theorem kc_7_64 : ja_code tc_7 64 = js_aload 0 65 := rfl
theorem kc_7_65 : ja_code tc_7 65 = js_get jl_c 1 5 68 := rfl
theorem kc_7_68 : ja_code tc_7 68 = js_get jl_c 5 8 71 := rfl
theorem kc_7_71 : ja_code tc_7 71 = js_iload 1 72 := rfl
theorem kc_7_72 : ja_code tc_7 72 = js_ald jl_c 0 73 := rfl
theorem kc_7_73 : ja_code tc_7 73 = js_aload 0 74 := rfl
theorem kc_7_74 : ja_code tc_7 74 = js_get jl_c 1 5 77 := rfl
theorem kc_7_77 : ja_code tc_7 77 = js_get jl_c 5 7 80 := rfl
theorem kc_7_80 : ja_code tc_7 80 = js_iload 1 81 := rfl
theorem kc_7_81 : ja_code tc_7 81 = js_ald jl_c 0 82 := rfl
theorem kc_7_82 : ja_code tc_7 82 = js_ib (fun x y => x - y) 83 := rfl
theorem kc_7_83 : ja_code tc_7 83 = js_iret := rfl
theorem kc_7_84 : ja_code tc_7 84 = js_aload 0 85 := rfl
theorem kc_7_85 : ja_code tc_7 85 = js_get jl_c 1 5 88 := rfl
theorem kc_7_88 : ja_code tc_7 88 = js_get jl_c 5 9 91 := rfl
theorem kc_7_91 : ja_code tc_7 91 = js_iload 1 92 := rfl
theorem kc_7_92 : ja_code tc_7 92 = js_ald jl_c 0 93 := rfl
theorem kc_7_93 : ja_code tc_7 93 = js_iret := rfl
theorem kc_7_94 : ja_code tc_7 94 = js_thr 1 := rfl
theorem kc_8_0 : ja_code tc_8 0 = js_iload 1 1 := rfl
theorem kc_8_1 : ja_code tc_8 1 = js_aload 0 2 := rfl
theorem kc_8_2 : ja_code tc_8 2 = js_get jl_c 1 5 5 := rfl
theorem kc_8_5 : ja_code tc_8 5 = js_get jl_c 5 4 8 := rfl
theorem kc_8_8 : ja_code tc_8 8 = js_xs 14 2 11 := rfl
theorem kc_8_11 : ja_code tc_8 11 = js_iload 2 12 := rfl
theorem kc_8_12 : ja_code tc_8 12 = js_aload 0 13 := rfl
theorem kc_8_13 : ja_code tc_8 13 = js_get jl_c 1 5 16 := rfl
theorem kc_8_16 : ja_code tc_8 16 = js_get jl_c 5 8 19 := rfl
theorem kc_8_19 : ja_code tc_8 19 = js_iload 1 20 := rfl
theorem kc_8_20 : ja_code tc_8 20 = js_ald jl_c 0 21 := rfl
theorem kc_8_21 : ja_code tc_8 21 = js_aload 0 22 := rfl
theorem kc_8_22 : ja_code tc_8 22 = js_get jl_c 1 5 25 := rfl
theorem kc_8_25 : ja_code tc_8 25 = js_get jl_c 5 7 28 := rfl
theorem kc_8_28 : ja_code tc_8 28 = js_iload 1 29 := rfl
theorem kc_8_29 : ja_code tc_8 29 = js_ald jl_c 0 30 := rfl
theorem kc_8_30 : ja_code tc_8 30 = js_ib (fun x y => x - y) 31 := rfl
theorem kc_8_31 : ja_code tc_8 31 = js_xs 14 2 34 := rfl
theorem kc_8_34 : ja_code tc_8 34 = js_aload 0 35 := rfl
theorem kc_8_35 : ja_code tc_8 35 = js_get jl_c 1 5 38 := rfl
theorem kc_8_38 : ja_code tc_8 38 = js_get jl_c 5 1 41 := rfl
theorem kc_8_41 : ja_code tc_8 41 = js_aload 0 42 := rfl
theorem kc_8_42 : ja_code tc_8 42 = js_get jl_c 1 5 45 := rfl
theorem kc_8_45 : ja_code tc_8 45 = js_get jl_c 5 7 48 := rfl
theorem kc_8_48 : ja_code tc_8 48 = js_iload 1 49 := rfl
theorem kc_8_49 : ja_code tc_8 49 = js_ald jl_c 0 50 := rfl
theorem kc_8_50 : ja_code tc_8 50 = js_iload 2 51 := rfl
theorem kc_8_51 : ja_code tc_8 51 = js_ib (fun x y => x + y) 52 := rfl
theorem kc_8_52 : ja_code tc_8 52 = js_cv jl_c 2 16 1 55 := rfl
theorem kc_8_55 : ja_code tc_8 55 = js_iret := rfl
theorem kc_9_0 : ja_code tc_9 0 = js_aload 0 1 := rfl
theorem kc_9_1 : ja_code tc_9 1 = js_get jl_c 1 6 4 := rfl
theorem kc_9_4 : ja_code tc_9 4 = js_get jl_c 2 1 7 := rfl
theorem kc_9_7 : ja_code tc_9 7 = js_iret := rfl
theorem kc_10_0 : ja_code tc_10 0 = js_iload 1 1 := rfl
theorem kc_10_1 : ja_code tc_10 1 = js_aload 0 2 := rfl
theorem kc_10_2 : ja_code tc_10 2 = js_get jl_c 1 6 5 := rfl
theorem kc_10_5 : ja_code tc_10 5 = js_get jl_c 2 1 8 := rfl
theorem kc_10_8 : ja_code tc_10 8 = js_xs 14 2 11 := rfl
theorem kc_10_11 : ja_code tc_10 11 = js_aload 0 12 := rfl
theorem kc_10_12 : ja_code tc_10 12 = js_get jl_c 1 6 15 := rfl
theorem kc_10_15 : ja_code tc_10 15 = js_iload 1 16 := rfl
theorem kc_10_16 : ja_code tc_10 16 = js_cv jl_c 2 16 1 19 := rfl
theorem kc_10_19 : ja_code tc_10 19 = js_iret := rfl
theorem kc_11_0 : ja_code tc_11 0 = js_iload 1 1 := rfl
theorem kc_11_1 : ja_code tc_11 1 = js_if (fun x => x < 0) 16 4 := rfl
theorem kc_11_4 : ja_code tc_11 4 = js_iload 1 5 := rfl
theorem kc_11_5 : ja_code tc_11 5 = js_aload 0 6 := rfl
theorem kc_11_6 : ja_code tc_11 6 = js_get jl_c 1 2 9 := rfl
theorem kc_11_9 : ja_code tc_11 9 = js_ic2 (fun x y => y ≤ x) 16 12 := rfl
theorem kc_11_12 : ja_code tc_11 12 = js_ic 1 13 := rfl
theorem kc_11_13 : ja_code tc_11 13 = js_goto 17 := rfl
theorem kc_11_16 : ja_code tc_11 16 = js_ic 0 17 := rfl
theorem kc_11_17 : ja_code tc_11 17 = js_zret := rfl
theorem kc_12_0 : ja_code tc_12 0 = js_lload 0 1 := rfl
theorem kc_12_1 : ja_code tc_12 1 = js_ic 8 3 := rfl
theorem kc_12_3 : ja_code tc_12 3 = js_iload 2 4 := rfl
theorem kc_12_4 : ja_code tc_12 4 = js_ib (fun x y => x * y) 5 := rfl
theorem kc_12_5 : ja_code tc_12 5 = js_ls (fun x y => (x.toUInt64 >>> (y.toInt64.toUInt64 &&& Int64.toUInt64 63)).toInt64) 6 := rfl
theorem kc_12_6 : ja_code tc_12 6 = js_lc 255 9 := rfl
theorem kc_12_9 : ja_code tc_12 9 = js_lb (fun x y => x &&& y) 10 := rfl
theorem kc_12_10 : ja_code tc_12 10 = js_l2i 11 := rfl
theorem kc_12_11 : ja_code tc_12 11 = js_i2c 12 := rfl
theorem kc_12_12 : ja_code tc_12 12 = js_cret := rfl
theorem kc_13_0 : ja_code tc_13 0 = js_iload 0 1 := rfl
theorem kc_13_1 : ja_code tc_13 1 = js_ic 10 3 := rfl
theorem kc_13_3 : ja_code tc_13 3 = js_ic2 (fun x y => x = y) 18 6 := rfl
theorem kc_13_6 : ja_code tc_13 6 = js_iload 0 7 := rfl
theorem kc_13_7 : ja_code tc_13 7 = js_ic 32 9 := rfl
theorem kc_13_9 : ja_code tc_13 9 = js_ic2 (fun x y => x < y) 22 12 := rfl
theorem kc_13_12 : ja_code tc_13 12 = js_iload 0 13 := rfl
theorem kc_13_13 : ja_code tc_13 13 = js_ic 126 15 := rfl
theorem kc_13_15 : ja_code tc_13 15 = js_ic2 (fun x y => y < x) 22 18 := rfl
theorem kc_13_18 : ja_code tc_13 18 = js_ic 1 19 := rfl
theorem kc_13_19 : ja_code tc_13 19 = js_goto 23 := rfl
theorem kc_13_22 : ja_code tc_13 22 = js_ic 0 23 := rfl
theorem kc_13_23 : ja_code tc_13 23 = js_zret := rfl
theorem kc_14_0 : ja_code tc_14 0 = js_iload 0 1 := rfl
theorem kc_14_1 : ja_code tc_14 1 = js_if (fun x => x < 0) 9 4 := rfl
theorem kc_14_4 : ja_code tc_14 4 = js_iload 0 5 := rfl
theorem kc_14_5 : ja_code tc_14 5 = js_iload 1 6 := rfl
theorem kc_14_6 : ja_code tc_14 6 = js_ic2 (fun x y => x < y) 17 9 := rfl
theorem kc_14_9 : ja_code tc_14 9 = js_thr 1 := rfl
theorem kc_14_17 : ja_code tc_14 17 = js_ret := rfl
theorem kc_15_0 : ja_code tc_15 0 = js_aload 0 1 := rfl
theorem kc_15_1 : ja_code tc_15 1 = js_ic 0 2 := rfl
theorem kc_15_2 : ja_code tc_15 2 = js_put jl_c 2 1 5 := rfl
theorem kc_15_5 : ja_code tc_15 5 = js_ret := rfl
theorem kc_16_0 : ja_code tc_16 0 = js_iload 1 1 := rfl
theorem kc_16_1 : ja_code tc_16 1 = js_if (fun x => x < 0) 21 4 := rfl
theorem kc_16_4 : ja_code tc_16 4 = js_iload 1 5 := rfl
theorem kc_16_5 : ja_code tc_16 5 = js_aload 0 6 := rfl
theorem kc_16_6 : ja_code tc_16 6 = js_get jl_c 2 1 9 := rfl
theorem kc_16_9 : ja_code tc_16 9 = js_ic2 (fun x y => y ≤ x) 21 12 := rfl
theorem kc_16_12 : ja_code tc_16 12 = js_aload 0 13 := rfl
theorem kc_16_13 : ja_code tc_16 13 = js_get jl_c 2 0 16 := rfl
theorem kc_16_16 : ja_code tc_16 16 = js_iload 1 17 := rfl
theorem kc_16_17 : ja_code tc_16 17 = js_ald jl_c 1 18 := rfl
theorem kc_16_18 : ja_code tc_16 18 = js_goto 22 := rfl
theorem kc_16_21 : ja_code tc_16 21 = js_ic 0 22 := rfl
theorem kc_16_22 : ja_code tc_16 22 = js_cret := rfl
theorem kc_17_0 : ja_code tc_17 0 = js_aload 0 1 := rfl
theorem kc_17_1 : ja_code tc_17 1 = js_get jl_c 2 1 4 := rfl
theorem kc_17_4 : ja_code tc_17 4 = js_ic 640 7 := rfl
theorem kc_17_7 : ja_code tc_17 7 = js_ic2 (fun x y => y ≤ x) 30 10 := rfl
theorem kc_17_10 : ja_code tc_17 10 = js_aload 0 11 := rfl
theorem kc_17_11 : ja_code tc_17 11 = js_get jl_c 2 0 14 := rfl
theorem kc_17_14 : ja_code tc_17 14 = js_aload 0 15 := rfl
theorem kc_17_15 : ja_code tc_17 15 = js_get jl_c 2 1 18 := rfl
theorem kc_17_18 : ja_code tc_17 18 = js_iload 1 19 := rfl
theorem kc_17_19 : ja_code tc_17 19 = js_cst jl_c 20 := rfl
theorem kc_17_20 : ja_code tc_17 20 = js_aload 0 21 := rfl
theorem kc_17_21 : ja_code tc_17 21 = js_dup 22 := rfl
theorem kc_17_22 : ja_code tc_17 22 = js_get jl_c 2 1 25 := rfl
theorem kc_17_25 : ja_code tc_17 25 = js_ic 1 26 := rfl
theorem kc_17_26 : ja_code tc_17 26 = js_ib (fun x y => x + y) 27 := rfl
theorem kc_17_27 : ja_code tc_17 27 = js_put jl_c 2 1 30 := rfl
theorem kc_17_30 : ja_code tc_17 30 = js_ret := rfl
theorem kc_18_0 : ja_code tc_18 0 = js_ic 0 1 := rfl
theorem kc_18_1 : ja_code tc_18 1 = js_istore 3 2 := rfl
theorem kc_18_2 : ja_code tc_18 2 = js_iload 3 3 := rfl
theorem kc_18_3 : ja_code tc_18 3 = js_iload 2 4 := rfl
theorem kc_18_4 : ja_code tc_18 4 = js_ic2 (fun x y => y ≤ x) 18 7 := rfl
theorem kc_18_7 : ja_code tc_18 7 = js_aload 0 8 := rfl
theorem kc_18_8 : ja_code tc_18 8 = js_iload 1 9 := rfl
theorem kc_18_9 : ja_code tc_18 9 = js_cv jl_c 2 17 1 12 := rfl
theorem kc_18_12 : ja_code tc_18 12 = js_iinc 3 1 15 := rfl
theorem kc_18_15 : ja_code tc_18 15 = js_goto 2 := rfl
theorem kc_18_18 : ja_code tc_18 18 = js_ret := rfl
theorem kc_19_0 : ja_code tc_19 0 = js_iload 2 1 := rfl
theorem kc_19_1 : ja_code tc_19 1 = js_istore 4 3 := rfl
theorem kc_19_3 : ja_code tc_19 3 = js_iload 4 5 := rfl
theorem kc_19_5 : ja_code tc_19 5 = js_iload 3 6 := rfl
theorem kc_19_6 : ja_code tc_19 6 = js_ic2 (fun x y => y ≤ x) 25 9 := rfl
theorem kc_19_9 : ja_code tc_19 9 = js_aload 0 10 := rfl
theorem kc_19_10 : ja_code tc_19 10 = js_aload 1 11 := rfl
theorem kc_19_11 : ja_code tc_19 11 = js_iload 4 13 := rfl
theorem kc_19_13 : ja_code tc_19 13 = js_cv jl_c 2 16 1 16 := rfl
theorem kc_19_16 : ja_code tc_19 16 = js_cv jl_c 2 17 1 19 := rfl
theorem kc_19_19 : ja_code tc_19 19 = js_iinc 4 1 22 := rfl
theorem kc_19_22 : ja_code tc_19 22 = js_goto 3 := rfl
theorem kc_19_25 : ja_code tc_19 25 = js_ret := rfl
theorem kc_20_0 : ja_code tc_20 0 = js_ic 0 1 := rfl
theorem kc_20_1 : ja_code tc_20 1 = js_istore 3 2 := rfl
theorem kc_20_2 : ja_code tc_20 2 = js_iload 3 3 := rfl
theorem kc_20_3 : ja_code tc_20 3 = js_ic 8 5 := rfl
theorem kc_20_5 : ja_code tc_20 5 = js_ic2 (fun x y => y ≤ x) 32 8 := rfl
theorem kc_20_8 : ja_code tc_20 8 = js_lload 1 9 := rfl
theorem kc_20_9 : ja_code tc_20 9 = js_iload 3 10 := rfl
theorem kc_20_10 : ja_code tc_20 10 = js_cs 12 2 13 := rfl
theorem kc_20_13 : ja_code tc_20 13 = js_istore 4 15 := rfl
theorem kc_20_15 : ja_code tc_20 15 = js_iload 4 17 := rfl
theorem kc_20_17 : ja_code tc_20 17 = js_if (fun x => x = 0) 26 20 := rfl
theorem kc_20_20 : ja_code tc_20 20 = js_aload 0 21 := rfl
theorem kc_20_21 : ja_code tc_20 21 = js_iload 4 23 := rfl
theorem kc_20_23 : ja_code tc_20 23 = js_cv jl_c 2 17 1 26 := rfl
theorem kc_20_26 : ja_code tc_20 26 = js_iinc 3 1 29 := rfl
theorem kc_20_29 : ja_code tc_20 29 = js_goto 2 := rfl
theorem kc_20_32 : ja_code tc_20 32 = js_ret := rfl
theorem kc_21_0 : ja_code tc_21 0 = js_iload 1 1 := rfl
theorem kc_21_1 : ja_code tc_21 1 = js_ic 10 3 := rfl
theorem kc_21_3 : ja_code tc_21 3 = js_ic2 (fun x y => x < y) 21 6 := rfl
theorem kc_21_6 : ja_code tc_21 6 = js_aload 0 7 := rfl
theorem kc_21_7 : ja_code tc_21 7 = js_ic 48 9 := rfl
theorem kc_21_9 : ja_code tc_21 9 = js_iload 1 10 := rfl
theorem kc_21_10 : ja_code tc_21 10 = js_ic 10 12 := rfl
theorem kc_21_12 : ja_code tc_21 12 = js_idiv 13 := rfl
theorem kc_21_13 : ja_code tc_21 13 = js_ic 10 15 := rfl
theorem kc_21_15 : ja_code tc_21 15 = js_irem 16 := rfl
theorem kc_21_16 : ja_code tc_21 16 = js_ib (fun x y => x + y) 17 := rfl
theorem kc_21_17 : ja_code tc_21 17 = js_i2c 18 := rfl
theorem kc_21_18 : ja_code tc_21 18 = js_cv jl_c 2 17 1 21 := rfl
theorem kc_21_21 : ja_code tc_21 21 = js_aload 0 22 := rfl
theorem kc_21_22 : ja_code tc_21 22 = js_ic 48 24 := rfl
theorem kc_21_24 : ja_code tc_21 24 = js_iload 1 25 := rfl
theorem kc_21_25 : ja_code tc_21 25 = js_ic 10 27 := rfl
theorem kc_21_27 : ja_code tc_21 27 = js_irem 28 := rfl
theorem kc_21_28 : ja_code tc_21 28 = js_ib (fun x y => x + y) 29 := rfl
theorem kc_21_29 : ja_code tc_21 29 = js_i2c 30 := rfl
theorem kc_21_30 : ja_code tc_21 30 = js_cv jl_c 2 17 1 33 := rfl
theorem kc_21_33 : ja_code tc_21 33 = js_ret := rfl
theorem kc_22_0 : ja_code tc_22 0 = js_iload 1 1 := rfl
theorem kc_22_1 : ja_code tc_22 1 = js_if (fun x => x < 0) 21 4 := rfl
theorem kc_22_4 : ja_code tc_22 4 = js_iload 1 5 := rfl
theorem kc_22_5 : ja_code tc_22 5 = js_aload 0 6 := rfl
theorem kc_22_6 : ja_code tc_22 6 = js_get jl_c 3 2 9 := rfl
theorem kc_22_9 : ja_code tc_22 9 = js_ic2 (fun x y => y ≤ x) 21 12 := rfl
theorem kc_22_12 : ja_code tc_22 12 = js_aload 0 13 := rfl
theorem kc_22_13 : ja_code tc_22 13 = js_get jl_c 3 0 16 := rfl
theorem kc_22_16 : ja_code tc_22 16 = js_iload 1 17 := rfl
theorem kc_22_17 : ja_code tc_22 17 = js_ald jl_c 0 18 := rfl
theorem kc_22_18 : ja_code tc_22 18 = js_goto 22 := rfl
theorem kc_22_21 : ja_code tc_22 21 = js_ic 0 22 := rfl
theorem kc_22_22 : ja_code tc_22 22 = js_iret := rfl
theorem kc_23_0 : ja_code tc_23 0 = js_iload 1 1 := rfl
theorem kc_23_1 : ja_code tc_23 1 = js_if (fun x => x < 0) 21 4 := rfl
theorem kc_23_4 : ja_code tc_23 4 = js_iload 1 5 := rfl
theorem kc_23_5 : ja_code tc_23 5 = js_aload 0 6 := rfl
theorem kc_23_6 : ja_code tc_23 6 = js_get jl_c 3 2 9 := rfl
theorem kc_23_9 : ja_code tc_23 9 = js_ic2 (fun x y => y ≤ x) 21 12 := rfl
theorem kc_23_12 : ja_code tc_23 12 = js_aload 0 13 := rfl
theorem kc_23_13 : ja_code tc_23 13 = js_get jl_c 3 1 16 := rfl
theorem kc_23_16 : ja_code tc_23 16 = js_iload 1 17 := rfl
theorem kc_23_17 : ja_code tc_23 17 = js_lald jl_c 18 := rfl
theorem kc_23_18 : ja_code tc_23 18 = js_goto 22 := rfl
theorem kc_23_21 : ja_code tc_23 21 = js_lc 0 22 := rfl
theorem kc_23_22 : ja_code tc_23 22 = js_lret := rfl
theorem kc_24_0 : ja_code tc_24 0 = js_aload 0 1 := rfl
theorem kc_24_1 : ja_code tc_24 1 = js_ic 0 2 := rfl
theorem kc_24_2 : ja_code tc_24 2 = js_put jl_c 3 2 5 := rfl
theorem kc_24_5 : ja_code tc_24 5 = js_ic 0 6 := rfl
theorem kc_24_6 : ja_code tc_24 6 = js_istore 3 7 := rfl
theorem kc_24_7 : ja_code tc_24 7 = js_ic 0 8 := rfl
theorem kc_24_8 : ja_code tc_24 8 = js_istore 4 10 := rfl
theorem kc_24_10 : ja_code tc_24 10 = js_iload 4 12 := rfl
theorem kc_24_12 : ja_code tc_24 12 = js_iload 2 13 := rfl
theorem kc_24_13 : ja_code tc_24 13 = js_ic2 (fun x y => y ≤ x) 98 16 := rfl
theorem kc_24_16 : ja_code tc_24 16 = js_aload 1 17 := rfl
theorem kc_24_17 : ja_code tc_24 17 = js_iload 4 19 := rfl
theorem kc_24_19 : ja_code tc_24 19 = js_ald jl_c 1 20 := rfl
theorem kc_24_20 : ja_code tc_24 20 = js_istore 5 22 := rfl
theorem kc_24_22 : ja_code tc_24 22 = js_iload 5 24 := rfl
theorem kc_24_24 : ja_code tc_24 24 = js_ic 32 26 := rfl
theorem kc_24_26 : ja_code tc_24 26 = js_ic2 (fun x y => x = y) 36 29 := rfl
theorem kc_24_29 : ja_code tc_24 29 = js_iload 5 31 := rfl
theorem kc_24_31 : ja_code tc_24 31 = js_ic 10 33 := rfl
theorem kc_24_33 : ja_code tc_24 33 = js_ic2 (fun x y => x = y) 36 40 := rfl
theorem kc_24_36 : ja_code tc_24 36 = js_ic 1 37 := rfl
theorem kc_24_37 : ja_code tc_24 37 = js_goto 41 := rfl
theorem kc_24_40 : ja_code tc_24 40 = js_ic 0 41 := rfl
theorem kc_24_41 : ja_code tc_24 41 = js_istore 6 43 := rfl
theorem kc_24_43 : ja_code tc_24 43 = js_iload 3 44 := rfl
theorem kc_24_44 : ja_code tc_24 44 = js_if (fun x => x = 0) 65 47 := rfl
theorem kc_24_47 : ja_code tc_24 47 = js_aload 0 48 := rfl
theorem kc_24_48 : ja_code tc_24 48 = js_iload 5 50 := rfl
theorem kc_24_50 : ja_code tc_24 50 = js_cv jl_c 3 25 1 53 := rfl
theorem kc_24_53 : ja_code tc_24 53 = js_if (fun x => x = 0) 65 56 := rfl
theorem kc_24_56 : ja_code tc_24 56 = js_aload 0 57 := rfl
theorem kc_24_57 : ja_code tc_24 57 = js_iload 5 59 := rfl
theorem kc_24_59 : ja_code tc_24 59 = js_cv jl_c 3 26 1 62 := rfl
theorem kc_24_62 : ja_code tc_24 62 = js_goto 81 := rfl
theorem kc_24_65 : ja_code tc_24 65 = js_iload 6 67 := rfl
theorem kc_24_67 : ja_code tc_24 67 = js_if (fun x => x = 0) 70 81 := rfl
theorem kc_24_70 : ja_code tc_24 70 = js_aload 0 71 := rfl
theorem kc_24_71 : ja_code tc_24 71 = js_iload 5 73 := rfl
theorem kc_24_73 : ja_code tc_24 73 = js_cs 28 1 76 := rfl
theorem kc_24_76 : ja_code tc_24 76 = js_iload 5 78 := rfl
theorem kc_24_78 : ja_code tc_24 78 = js_cv jl_c 3 27 2 81 := rfl
theorem kc_24_81 : ja_code tc_24 81 = js_iload 6 83 := rfl
theorem kc_24_83 : ja_code tc_24 83 = js_if (fun x => x = 0) 86 90 := rfl
theorem kc_24_86 : ja_code tc_24 86 = js_ic 1 87 := rfl
theorem kc_24_87 : ja_code tc_24 87 = js_goto 91 := rfl
theorem kc_24_90 : ja_code tc_24 90 = js_ic 0 91 := rfl
theorem kc_24_91 : ja_code tc_24 91 = js_istore 3 92 := rfl
theorem kc_24_92 : ja_code tc_24 92 = js_iinc 4 1 95 := rfl
theorem kc_24_95 : ja_code tc_24 95 = js_goto 10 := rfl
theorem kc_24_98 : ja_code tc_24 98 = js_ic 0 99 := rfl
theorem kc_24_99 : ja_code tc_24 99 = js_istore 4 101 := rfl
theorem kc_24_101 : ja_code tc_24 101 = js_iload 4 103 := rfl
theorem kc_24_103 : ja_code tc_24 103 = js_aload 0 104 := rfl
theorem kc_24_104 : ja_code tc_24 104 = js_get jl_c 3 2 107 := rfl
theorem kc_24_107 : ja_code tc_24 107 = js_ic2 (fun x y => y ≤ x) 144 110 := rfl
theorem kc_24_110 : ja_code tc_24 110 = js_aload 0 111 := rfl
theorem kc_24_111 : ja_code tc_24 111 = js_get jl_c 3 0 114 := rfl
theorem kc_24_114 : ja_code tc_24 114 = js_iload 4 116 := rfl
theorem kc_24_116 : ja_code tc_24 116 = js_ald jl_c 0 117 := rfl
theorem kc_24_117 : ja_code tc_24 117 = js_ic 2 118 := rfl
theorem kc_24_118 : ja_code tc_24 118 = js_ic2 (fun x y => x = y) 121 138 := rfl
theorem kc_24_121 : ja_code tc_24 121 = js_aload 0 122 := rfl
theorem kc_24_122 : ja_code tc_24 122 = js_get jl_c 3 0 125 := rfl
theorem kc_24_125 : ja_code tc_24 125 = js_iload 4 127 := rfl
theorem kc_24_127 : ja_code tc_24 127 = js_aload 0 128 := rfl
theorem kc_24_128 : ja_code tc_24 128 = js_get jl_c 3 1 131 := rfl
theorem kc_24_131 : ja_code tc_24 131 = js_iload 4 133 := rfl
theorem kc_24_133 : ja_code tc_24 133 = js_lald jl_c 134 := rfl
theorem kc_24_134 : ja_code tc_24 134 = js_cs 31 1 137 := rfl
theorem kc_24_137 : ja_code tc_24 137 = js_ast jl_c 138 := rfl
theorem kc_24_138 : ja_code tc_24 138 = js_iinc 4 1 141 := rfl
theorem kc_24_141 : ja_code tc_24 141 = js_goto 101 := rfl
theorem kc_24_144 : ja_code tc_24 144 = js_ret := rfl
theorem kc_25_0 : ja_code tc_25 0 = js_aload 0 1 := rfl
theorem kc_25_1 : ja_code tc_25 1 = js_aload 0 2 := rfl
theorem kc_25_2 : ja_code tc_25 2 = js_get jl_c 3 2 5 := rfl
theorem kc_25_5 : ja_code tc_25 5 = js_ic 1 6 := rfl
theorem kc_25_6 : ja_code tc_25 6 = js_ib (fun x y => x - y) 7 := rfl
theorem kc_25_7 : ja_code tc_25 7 = js_cv jl_c 3 22 1 10 := rfl
theorem kc_25_10 : ja_code tc_25 10 = js_istore 2 11 := rfl
theorem kc_25_11 : ja_code tc_25 11 = js_iload 1 12 := rfl
theorem kc_25_12 : ja_code tc_25 12 = js_cs 30 1 15 := rfl
theorem kc_25_15 : ja_code tc_25 15 = js_if (fun x => x = 0) 36 18 := rfl
theorem kc_25_18 : ja_code tc_25 18 = js_iload 2 19 := rfl
theorem kc_25_19 : ja_code tc_25 19 = js_ic 2 20 := rfl
theorem kc_25_20 : ja_code tc_25 20 = js_ic2 (fun x y => x = y) 28 23 := rfl
theorem kc_25_23 : ja_code tc_25 23 = js_iload 2 24 := rfl
theorem kc_25_24 : ja_code tc_25 24 = js_ic 3 25 := rfl
theorem kc_25_25 : ja_code tc_25 25 = js_ic2 (fun x y => x = y) 28 32 := rfl
theorem kc_25_28 : ja_code tc_25 28 = js_ic 1 29 := rfl
theorem kc_25_29 : ja_code tc_25 29 = js_goto 53 := rfl
theorem kc_25_32 : ja_code tc_25 32 = js_ic 0 33 := rfl
theorem kc_25_33 : ja_code tc_25 33 = js_goto 53 := rfl
theorem kc_25_36 : ja_code tc_25 36 = js_iload 1 37 := rfl
theorem kc_25_37 : ja_code tc_25 37 = js_cs 29 1 40 := rfl
theorem kc_25_40 : ja_code tc_25 40 = js_if (fun x => x = 0) 52 43 := rfl
theorem kc_25_43 : ja_code tc_25 43 = js_iload 2 44 := rfl
theorem kc_25_44 : ja_code tc_25 44 = js_ic 2 45 := rfl
theorem kc_25_45 : ja_code tc_25 45 = js_ic2 (fun x y => x = y) 48 52 := rfl
theorem kc_25_48 : ja_code tc_25 48 = js_ic 1 49 := rfl
theorem kc_25_49 : ja_code tc_25 49 = js_goto 53 := rfl
theorem kc_25_52 : ja_code tc_25 52 = js_ic 0 53 := rfl
theorem kc_25_53 : ja_code tc_25 53 = js_zret := rfl
theorem kc_26_0 : ja_code tc_26 0 = js_aload 0 1 := rfl
theorem kc_26_1 : ja_code tc_26 1 = js_get jl_c 3 2 4 := rfl
theorem kc_26_4 : ja_code tc_26 4 = js_ic 1 5 := rfl
theorem kc_26_5 : ja_code tc_26 5 = js_ib (fun x y => x - y) 6 := rfl
theorem kc_26_6 : ja_code tc_26 6 = js_istore 2 7 := rfl
theorem kc_26_7 : ja_code tc_26 7 = js_aload 0 8 := rfl
theorem kc_26_8 : ja_code tc_26 8 = js_get jl_c 3 3 11 := rfl
theorem kc_26_11 : ja_code tc_26 11 = js_aload 0 12 := rfl
theorem kc_26_12 : ja_code tc_26 12 = js_iload 2 13 := rfl
theorem kc_26_13 : ja_code tc_26 13 = js_cv jl_c 3 22 1 16 := rfl
theorem kc_26_16 : ja_code tc_26 16 = js_ic 2 17 := rfl
theorem kc_26_17 : ja_code tc_26 17 = js_ic2 (fun x y => x = y) 20 25 := rfl
theorem kc_26_20 : ja_code tc_26 20 = js_ic 8 22 := rfl
theorem kc_26_22 : ja_code tc_26 22 = js_goto 26 := rfl
theorem kc_26_25 : ja_code tc_26 25 = js_ic 4 26 := rfl
theorem kc_26_26 : ja_code tc_26 26 = js_ic2 (fun x y => y ≤ x) 61 29 := rfl
theorem kc_26_29 : ja_code tc_26 29 = js_aload 0 30 := rfl
theorem kc_26_30 : ja_code tc_26 30 = js_get jl_c 3 1 33 := rfl
theorem kc_26_33 : ja_code tc_26 33 = js_iload 2 34 := rfl
theorem kc_26_34 : ja_code tc_26 34 = js_dup2 35 := rfl
theorem kc_26_35 : ja_code tc_26 35 = js_lald jl_c 36 := rfl
theorem kc_26_36 : ja_code tc_26 36 = js_iload 1 37 := rfl
theorem kc_26_37 : ja_code tc_26 37 = js_i2l 38 := rfl
theorem kc_26_38 : ja_code tc_26 38 = js_ic 8 40 := rfl
theorem kc_26_40 : ja_code tc_26 40 = js_aload 0 41 := rfl
theorem kc_26_41 : ja_code tc_26 41 = js_get jl_c 3 3 44 := rfl
theorem kc_26_44 : ja_code tc_26 44 = js_ib (fun x y => x * y) 45 := rfl
theorem kc_26_45 : ja_code tc_26 45 = js_ls (fun x y => x <<< (y.toInt64 &&& 63)) 46 := rfl
theorem kc_26_46 : ja_code tc_26 46 = js_lb (fun x y => x ||| y) 47 := rfl
theorem kc_26_47 : ja_code tc_26 47 = js_last jl_c 48 := rfl
theorem kc_26_48 : ja_code tc_26 48 = js_aload 0 49 := rfl
theorem kc_26_49 : ja_code tc_26 49 = js_dup 50 := rfl
theorem kc_26_50 : ja_code tc_26 50 = js_get jl_c 3 3 53 := rfl
theorem kc_26_53 : ja_code tc_26 53 = js_ic 1 54 := rfl
theorem kc_26_54 : ja_code tc_26 54 = js_ib (fun x y => x + y) 55 := rfl
theorem kc_26_55 : ja_code tc_26 55 = js_put jl_c 3 3 58 := rfl
theorem kc_26_58 : ja_code tc_26 58 = js_goto 67 := rfl
theorem kc_26_61 : ja_code tc_26 61 = js_aload 0 62 := rfl
theorem kc_26_62 : ja_code tc_26 62 = js_ic 1 63 := rfl
theorem kc_26_63 : ja_code tc_26 63 = js_iload 1 64 := rfl
theorem kc_26_64 : ja_code tc_26 64 = js_cv jl_c 3 27 2 67 := rfl
theorem kc_26_67 : ja_code tc_26 67 = js_ret := rfl
theorem kc_27_0 : ja_code tc_27 0 = js_aload 0 1 := rfl
theorem kc_27_1 : ja_code tc_27 1 = js_get jl_c 3 2 4 := rfl
theorem kc_27_4 : ja_code tc_27 4 = js_ic 160 7 := rfl
theorem kc_27_7 : ja_code tc_27 7 = js_ic2 (fun x y => y ≤ x) 46 10 := rfl
theorem kc_27_10 : ja_code tc_27 10 = js_aload 0 11 := rfl
theorem kc_27_11 : ja_code tc_27 11 = js_get jl_c 3 0 14 := rfl
theorem kc_27_14 : ja_code tc_27 14 = js_aload 0 15 := rfl
theorem kc_27_15 : ja_code tc_27 15 = js_get jl_c 3 2 18 := rfl
theorem kc_27_18 : ja_code tc_27 18 = js_iload 1 19 := rfl
theorem kc_27_19 : ja_code tc_27 19 = js_ast jl_c 20 := rfl
theorem kc_27_20 : ja_code tc_27 20 = js_aload 0 21 := rfl
theorem kc_27_21 : ja_code tc_27 21 = js_get jl_c 3 1 24 := rfl
theorem kc_27_24 : ja_code tc_27 24 = js_aload 0 25 := rfl
theorem kc_27_25 : ja_code tc_27 25 = js_get jl_c 3 2 28 := rfl
theorem kc_27_28 : ja_code tc_27 28 = js_iload 2 29 := rfl
theorem kc_27_29 : ja_code tc_27 29 = js_i2l 30 := rfl
theorem kc_27_30 : ja_code tc_27 30 = js_last jl_c 31 := rfl
theorem kc_27_31 : ja_code tc_27 31 = js_aload 0 32 := rfl
theorem kc_27_32 : ja_code tc_27 32 = js_ic 1 33 := rfl
theorem kc_27_33 : ja_code tc_27 33 = js_put jl_c 3 3 36 := rfl
theorem kc_27_36 : ja_code tc_27 36 = js_aload 0 37 := rfl
theorem kc_27_37 : ja_code tc_27 37 = js_dup 38 := rfl
theorem kc_27_38 : ja_code tc_27 38 = js_get jl_c 3 2 41 := rfl
theorem kc_27_41 : ja_code tc_27 41 = js_ic 1 42 := rfl
theorem kc_27_42 : ja_code tc_27 42 = js_ib (fun x y => x + y) 43 := rfl
theorem kc_27_43 : ja_code tc_27 43 = js_put jl_c 3 2 46 := rfl
theorem kc_27_46 : ja_code tc_27 46 = js_ret := rfl
theorem kc_28_0 : ja_code tc_28 0 = js_iload 0 1 := rfl
theorem kc_28_1 : ja_code tc_28 1 = js_cs 29 1 4 := rfl
theorem kc_28_4 : ja_code tc_28 4 = js_if (fun x => x = 0) 9 7 := rfl
theorem kc_28_7 : ja_code tc_28 7 = js_ic 2 8 := rfl
theorem kc_28_8 : ja_code tc_28 8 = js_iret := rfl
theorem kc_28_9 : ja_code tc_28 9 = js_iload 0 10 := rfl
theorem kc_28_10 : ja_code tc_28 10 = js_cs 30 1 13 := rfl
theorem kc_28_13 : ja_code tc_28 13 = js_if (fun x => x = 0) 18 16 := rfl
theorem kc_28_16 : ja_code tc_28 16 = js_ic 3 17 := rfl
theorem kc_28_17 : ja_code tc_28 17 = js_iret := rfl
theorem kc_28_18 : ja_code tc_28 18 = js_lds 0 20 := rfl
theorem kc_28_20 : ja_code tc_28 20 = js_iload 0 21 := rfl
theorem kc_28_21 : ja_code tc_28 21 = js_ck 87 1 24 := rfl
theorem kc_28_24 : ja_code tc_28 24 = js_if (fun x => x < 0) 31 27 := rfl
theorem kc_28_27 : ja_code tc_28 27 = js_iload 0 28 := rfl
theorem kc_28_28 : ja_code tc_28 28 = js_goto 32 := rfl
theorem kc_28_31 : ja_code tc_28 31 = js_ic 1 32 := rfl
theorem kc_28_32 : ja_code tc_28 32 = js_iret := rfl
theorem kc_29_0 : ja_code tc_29 0 = js_iload 0 1 := rfl
theorem kc_29_1 : ja_code tc_29 1 = js_ic 97 3 := rfl
theorem kc_29_3 : ja_code tc_29 3 = js_ic2 (fun x y => x < y) 16 6 := rfl
theorem kc_29_6 : ja_code tc_29 6 = js_iload 0 7 := rfl
theorem kc_29_7 : ja_code tc_29 7 = js_ic 122 9 := rfl
theorem kc_29_9 : ja_code tc_29 9 = js_ic2 (fun x y => y < x) 16 12 := rfl
theorem kc_29_12 : ja_code tc_29 12 = js_ic 1 13 := rfl
theorem kc_29_13 : ja_code tc_29 13 = js_goto 17 := rfl
theorem kc_29_16 : ja_code tc_29 16 = js_ic 0 17 := rfl
theorem kc_29_17 : ja_code tc_29 17 = js_zret := rfl
theorem kc_30_0 : ja_code tc_30 0 = js_iload 0 1 := rfl
theorem kc_30_1 : ja_code tc_30 1 = js_ic 48 3 := rfl
theorem kc_30_3 : ja_code tc_30 3 = js_ic2 (fun x y => x < y) 16 6 := rfl
theorem kc_30_6 : ja_code tc_30 6 = js_iload 0 7 := rfl
theorem kc_30_7 : ja_code tc_30 7 = js_ic 57 9 := rfl
theorem kc_30_9 : ja_code tc_30 9 = js_ic2 (fun x y => y < x) 16 12 := rfl
theorem kc_30_12 : ja_code tc_30 12 = js_ic 1 13 := rfl
theorem kc_30_13 : ja_code tc_30 13 = js_goto 17 := rfl
theorem kc_30_16 : ja_code tc_30 16 = js_ic 0 17 := rfl
theorem kc_30_17 : ja_code tc_30 17 = js_zret := rfl
theorem kc_31_0 : ja_code tc_31 0 = js_lload 0 1 := rfl
theorem kc_31_1 : ja_code tc_31 1 = js_lds 1 3 := rfl
theorem kc_31_3 : ja_code tc_31 3 = js_cs 86 1 6 := rfl
theorem kc_31_6 : ja_code tc_31 6 = js_lcmp 7 := rfl
theorem kc_31_7 : ja_code tc_31 7 = js_if (fun x => x = 0) 10 12 := rfl
theorem kc_31_10 : ja_code tc_31 10 = js_ic 4 11 := rfl
theorem kc_31_11 : ja_code tc_31 11 = js_iret := rfl
theorem kc_31_12 : ja_code tc_31 12 = js_lload 0 13 := rfl
theorem kc_31_13 : ja_code tc_31 13 = js_lds 2 15 := rfl
theorem kc_31_15 : ja_code tc_31 15 = js_cs 86 1 18 := rfl
theorem kc_31_18 : ja_code tc_31 18 = js_lcmp 19 := rfl
theorem kc_31_19 : ja_code tc_31 19 = js_if (fun x => x = 0) 22 24 := rfl
theorem kc_31_22 : ja_code tc_31 22 = js_ic 5 23 := rfl
theorem kc_31_23 : ja_code tc_31 23 = js_iret := rfl
theorem kc_31_24 : ja_code tc_31 24 = js_lload 0 25 := rfl
theorem kc_31_25 : ja_code tc_31 25 = js_lds 3 27 := rfl
theorem kc_31_27 : ja_code tc_31 27 = js_cs 86 1 30 := rfl
theorem kc_31_30 : ja_code tc_31 30 = js_lcmp 31 := rfl
theorem kc_31_31 : ja_code tc_31 31 = js_if (fun x => x = 0) 34 37 := rfl
theorem kc_31_34 : ja_code tc_31 34 = js_ic 6 36 := rfl
theorem kc_31_36 : ja_code tc_31 36 = js_iret := rfl
theorem kc_31_37 : ja_code tc_31 37 = js_lload 0 38 := rfl
theorem kc_31_38 : ja_code tc_31 38 = js_lds 4 40 := rfl
theorem kc_31_40 : ja_code tc_31 40 = js_cs 86 1 43 := rfl
theorem kc_31_43 : ja_code tc_31 43 = js_lcmp 44 := rfl
theorem kc_31_44 : ja_code tc_31 44 = js_if (fun x => x = 0) 47 50 := rfl
theorem kc_31_47 : ja_code tc_31 47 = js_ic 7 49 := rfl
theorem kc_31_49 : ja_code tc_31 49 = js_iret := rfl
theorem kc_31_50 : ja_code tc_31 50 = js_lload 0 51 := rfl
theorem kc_31_51 : ja_code tc_31 51 = js_lds 5 53 := rfl
theorem kc_31_53 : ja_code tc_31 53 = js_cs 86 1 56 := rfl
theorem kc_31_56 : ja_code tc_31 56 = js_lcmp 57 := rfl
theorem kc_31_57 : ja_code tc_31 57 = js_if (fun x => x = 0) 60 63 := rfl
theorem kc_31_60 : ja_code tc_31 60 = js_ic 8 62 := rfl
theorem kc_31_62 : ja_code tc_31 62 = js_iret := rfl
theorem kc_31_63 : ja_code tc_31 63 = js_lload 0 64 := rfl
theorem kc_31_64 : ja_code tc_31 64 = js_lds 6 66 := rfl
theorem kc_31_66 : ja_code tc_31 66 = js_cs 86 1 69 := rfl
theorem kc_31_69 : ja_code tc_31 69 = js_lcmp 70 := rfl
theorem kc_31_70 : ja_code tc_31 70 = js_if (fun x => x = 0) 73 76 := rfl
theorem kc_31_73 : ja_code tc_31 73 = js_ic 9 75 := rfl
theorem kc_31_75 : ja_code tc_31 75 = js_iret := rfl
theorem kc_31_76 : ja_code tc_31 76 = js_lload 0 77 := rfl
theorem kc_31_77 : ja_code tc_31 77 = js_lds 7 79 := rfl
theorem kc_31_79 : ja_code tc_31 79 = js_cs 86 1 82 := rfl
theorem kc_31_82 : ja_code tc_31 82 = js_lcmp 83 := rfl
theorem kc_31_83 : ja_code tc_31 83 = js_if (fun x => x = 0) 86 89 := rfl
theorem kc_31_86 : ja_code tc_31 86 = js_ic 10 88 := rfl
theorem kc_31_88 : ja_code tc_31 88 = js_iret := rfl
theorem kc_31_89 : ja_code tc_31 89 = js_lload 0 90 := rfl
theorem kc_31_90 : ja_code tc_31 90 = js_lds 8 92 := rfl
theorem kc_31_92 : ja_code tc_31 92 = js_cs 86 1 95 := rfl
theorem kc_31_95 : ja_code tc_31 95 = js_lcmp 96 := rfl
theorem kc_31_96 : ja_code tc_31 96 = js_if (fun x => x = 0) 99 102 := rfl
theorem kc_31_99 : ja_code tc_31 99 = js_ic 11 101 := rfl
theorem kc_31_101 : ja_code tc_31 101 = js_iret := rfl
theorem kc_31_102 : ja_code tc_31 102 = js_lload 0 103 := rfl
theorem kc_31_103 : ja_code tc_31 103 = js_lds 9 105 := rfl
theorem kc_31_105 : ja_code tc_31 105 = js_cs 86 1 108 := rfl
theorem kc_31_108 : ja_code tc_31 108 = js_lcmp 109 := rfl
theorem kc_31_109 : ja_code tc_31 109 = js_if (fun x => x = 0) 112 117 := rfl
theorem kc_31_112 : ja_code tc_31 112 = js_ic 12 114 := rfl
theorem kc_31_114 : ja_code tc_31 114 = js_goto 118 := rfl
theorem kc_31_117 : ja_code tc_31 117 = js_ic 2 118 := rfl
theorem kc_31_118 : ja_code tc_31 118 = js_iret := rfl
theorem kc_32_0 : ja_code tc_32 0 = js_aload 0 1 := rfl
theorem kc_32_1 : ja_code tc_32 1 = js_ic 0 2 := rfl
theorem kc_32_2 : ja_code tc_32 2 = js_put jl_c 4 1 5 := rfl
theorem kc_32_5 : ja_code tc_32 5 = js_aload 0 6 := rfl
theorem kc_32_6 : ja_code tc_32 6 = js_ic 0 7 := rfl
theorem kc_32_7 : ja_code tc_32 7 = js_put jl_c 4 3 10 := rfl
theorem kc_32_10 : ja_code tc_32 10 = js_aload 0 11 := rfl
theorem kc_32_11 : ja_code tc_32 11 = js_aload 0 12 := rfl
theorem kc_32_12 : ja_code tc_32 12 = js_get jl_c 4 0 15 := rfl
theorem kc_32_15 : ja_code tc_32 15 = js_aload 0 16 := rfl
theorem kc_32_16 : ja_code tc_32 16 = js_get jl_c 4 1 19 := rfl
theorem kc_32_19 : ja_code tc_32 19 = js_cv jl_c 3 22 1 22 := rfl
theorem kc_32_22 : ja_code tc_32 22 = js_put jl_c 4 2 25 := rfl
theorem kc_32_25 : ja_code tc_32 25 = js_ret := rfl
theorem kc_33_0 : ja_code tc_33 0 = js_aload 0 1 := rfl
theorem kc_33_1 : ja_code tc_33 1 = js_get jl_c 4 2 4 := rfl
theorem kc_33_4 : ja_code tc_33 4 = js_iret := rfl
theorem kc_34_0 : ja_code tc_34 0 = js_aload 0 1 := rfl
theorem kc_34_1 : ja_code tc_34 1 = js_get jl_c 4 0 4 := rfl
theorem kc_34_4 : ja_code tc_34 4 = js_aload 0 5 := rfl
theorem kc_34_5 : ja_code tc_34 5 = js_get jl_c 4 1 8 := rfl
theorem kc_34_8 : ja_code tc_34 8 = js_ic 1 9 := rfl
theorem kc_34_9 : ja_code tc_34 9 = js_ib (fun x y => x + y) 10 := rfl
theorem kc_34_10 : ja_code tc_34 10 = js_cv jl_c 3 22 1 13 := rfl
theorem kc_34_13 : ja_code tc_34 13 = js_iret := rfl
theorem kc_35_0 : ja_code tc_35 0 = js_aload 0 1 := rfl
theorem kc_35_1 : ja_code tc_35 1 = js_get jl_c 4 2 4 := rfl
theorem kc_35_4 : ja_code tc_35 4 = js_iload 1 5 := rfl
theorem kc_35_5 : ja_code tc_35 5 = js_ic2 (fun x y => x = y) 8 12 := rfl
theorem kc_35_8 : ja_code tc_35 8 = js_ic 1 9 := rfl
theorem kc_35_9 : ja_code tc_35 9 = js_goto 13 := rfl
theorem kc_35_12 : ja_code tc_35 12 = js_ic 0 13 := rfl
theorem kc_35_13 : ja_code tc_35 13 = js_zret := rfl
theorem kc_36_0 : ja_code tc_36 0 = js_iload 1 1 := rfl
theorem kc_36_1 : ja_code tc_36 1 = js_if (fun x => x = 0) 4 12 := rfl
theorem kc_36_4 : ja_code tc_36 4 = js_thr 0 := rfl
theorem kc_36_12 : ja_code tc_36 12 = js_ret := rfl
theorem kc_37_0 : ja_code tc_37 0 = js_aload 0 1 := rfl
theorem kc_37_1 : ja_code tc_37 1 = js_get jl_c 4 2 4 := rfl
theorem kc_37_4 : ja_code tc_37 4 = js_sw [(8, 88), (9, 88), (10, 88), (40, 88), (41, 101), (91, 88), (93, 101), (123, 88), (125, 101)] 114 := rfl
theorem kc_37_88 : ja_code tc_37 88 = js_aload 0 89 := rfl
theorem kc_37_89 : ja_code tc_37 89 = js_dup 90 := rfl
theorem kc_37_90 : ja_code tc_37 90 = js_get jl_c 4 3 93 := rfl
theorem kc_37_93 : ja_code tc_37 93 = js_ic 1 94 := rfl
theorem kc_37_94 : ja_code tc_37 94 = js_ib (fun x y => x + y) 95 := rfl
theorem kc_37_95 : ja_code tc_37 95 = js_put jl_c 4 3 98 := rfl
theorem kc_37_98 : ja_code tc_37 98 = js_goto 114 := rfl
theorem kc_37_101 : ja_code tc_37 101 = js_aload 0 102 := rfl
theorem kc_37_102 : ja_code tc_37 102 = js_dup 103 := rfl
theorem kc_37_103 : ja_code tc_37 103 = js_get jl_c 4 3 106 := rfl
theorem kc_37_106 : ja_code tc_37 106 = js_ic 1 107 := rfl
theorem kc_37_107 : ja_code tc_37 107 = js_ib (fun x y => x - y) 108 := rfl
theorem kc_37_108 : ja_code tc_37 108 = js_put jl_c 4 3 111 := rfl
theorem kc_37_111 : ja_code tc_37 111 = js_goto 114 := rfl
theorem kc_37_114 : ja_code tc_37 114 = js_aload 0 115 := rfl
theorem kc_37_115 : ja_code tc_37 115 = js_get jl_c 4 3 118 := rfl
theorem kc_37_118 : ja_code tc_37 118 = js_ic 8 120 := rfl
theorem kc_37_120 : ja_code tc_37 120 = js_ic2 (fun x y => x ≤ y) 131 123 := rfl
theorem kc_37_123 : ja_code tc_37 123 = js_thr 0 := rfl
theorem kc_37_131 : ja_code tc_37 131 = js_aload 0 132 := rfl
theorem kc_37_132 : ja_code tc_37 132 = js_dup 133 := rfl
theorem kc_37_133 : ja_code tc_37 133 = js_get jl_c 4 1 136 := rfl
theorem kc_37_136 : ja_code tc_37 136 = js_ic 1 137 := rfl
theorem kc_37_137 : ja_code tc_37 137 = js_ib (fun x y => x + y) 138 := rfl
theorem kc_37_138 : ja_code tc_37 138 = js_put jl_c 4 1 141 := rfl
theorem kc_37_141 : ja_code tc_37 141 = js_aload 0 142 := rfl
theorem kc_37_142 : ja_code tc_37 142 = js_aload 0 143 := rfl
theorem kc_37_143 : ja_code tc_37 143 = js_get jl_c 4 1 146 := rfl
theorem kc_37_146 : ja_code tc_37 146 = js_aload 0 147 := rfl
theorem kc_37_147 : ja_code tc_37 147 = js_get jl_c 4 0 150 := rfl
theorem kc_37_150 : ja_code tc_37 150 = js_get jl_c 3 2 153 := rfl
theorem kc_37_153 : ja_code tc_37 153 = js_ic2 (fun x y => y ≤ x) 171 156 := rfl
theorem kc_37_156 : ja_code tc_37 156 = js_aload 0 157 := rfl
theorem kc_37_157 : ja_code tc_37 157 = js_get jl_c 4 0 160 := rfl
theorem kc_37_160 : ja_code tc_37 160 = js_get jl_c 3 0 163 := rfl
theorem kc_37_163 : ja_code tc_37 163 = js_aload 0 164 := rfl
theorem kc_37_164 : ja_code tc_37 164 = js_get jl_c 4 1 167 := rfl
theorem kc_37_167 : ja_code tc_37 167 = js_ald jl_c 0 168 := rfl
theorem kc_37_168 : ja_code tc_37 168 = js_goto 172 := rfl
theorem kc_37_171 : ja_code tc_37 171 = js_ic 0 172 := rfl
theorem kc_37_172 : ja_code tc_37 172 = js_put jl_c 4 2 175 := rfl
theorem kc_37_175 : ja_code tc_37 175 = js_aload 0 176 := rfl
theorem kc_37_176 : ja_code tc_37 176 = js_get jl_c 4 1 179 := rfl
theorem kc_37_179 : ja_code tc_37 179 = js_ic 1 180 := rfl
theorem kc_37_180 : ja_code tc_37 180 = js_ib (fun x y => x - y) 181 := rfl
theorem kc_37_181 : ja_code tc_37 181 = js_iret := rfl
theorem kc_38_0 : ja_code tc_38 0 = js_aload 0 1 := rfl
theorem kc_38_1 : ja_code tc_38 1 = js_aload 0 2 := rfl
theorem kc_38_2 : ja_code tc_38 2 = js_get jl_c 4 2 5 := rfl
theorem kc_38_5 : ja_code tc_38 5 = js_iload 1 6 := rfl
theorem kc_38_6 : ja_code tc_38 6 = js_ic2 (fun x y => x = y) 9 13 := rfl
theorem kc_38_9 : ja_code tc_38 9 = js_ic 1 10 := rfl
theorem kc_38_10 : ja_code tc_38 10 = js_goto 14 := rfl
theorem kc_38_13 : ja_code tc_38 13 = js_ic 0 14 := rfl
theorem kc_38_14 : ja_code tc_38 14 = js_xv jl_c 4 36 1 17 := rfl
theorem kc_38_17 : ja_code tc_38 17 = js_aload 0 18 := rfl
theorem kc_38_18 : ja_code tc_38 18 = js_xv jl_c 4 37 0 21 := rfl
theorem kc_38_21 : ja_code tc_38 21 = js_iret := rfl
theorem kc_39_0 : ja_code tc_39 0 = js_aload 0 1 := rfl
theorem kc_39_1 : ja_code tc_39 1 = js_dup 2 := rfl
theorem kc_39_2 : ja_code tc_39 2 = js_get jl_c 4 3 5 := rfl
theorem kc_39_5 : ja_code tc_39 5 = js_ic 1 6 := rfl
theorem kc_39_6 : ja_code tc_39 6 = js_ib (fun x y => x - y) 7 := rfl
theorem kc_39_7 : ja_code tc_39 7 = js_put jl_c 4 3 10 := rfl
theorem kc_39_10 : ja_code tc_39 10 = js_ret := rfl
theorem kc_40_0 : ja_code tc_40 0 = js_aload 0 1 := rfl
theorem kc_40_1 : ja_code tc_40 1 = js_get jl_c 5 1 4 := rfl
theorem kc_40_4 : ja_code tc_40 4 = js_cv jl_c 2 15 0 7 := rfl
theorem kc_40_7 : ja_code tc_40 7 = js_aload 0 8 := rfl
theorem kc_40_8 : ja_code tc_40 8 = js_ic 0 9 := rfl
theorem kc_40_9 : ja_code tc_40 9 = js_put jl_c 5 4 12 := rfl
theorem kc_40_12 : ja_code tc_40 12 = js_aload 0 13 := rfl
theorem kc_40_13 : ja_code tc_40 13 = js_ic 0 14 := rfl
theorem kc_40_14 : ja_code tc_40 14 = js_put jl_c 5 12 17 := rfl
theorem kc_40_17 : ja_code tc_40 17 = js_aload 0 18 := rfl
theorem kc_40_18 : ja_code tc_40 18 = js_ic 0 19 := rfl
theorem kc_40_19 : ja_code tc_40 19 = js_put jl_c 5 13 22 := rfl
theorem kc_40_22 : ja_code tc_40 22 = js_ic 0 23 := rfl
theorem kc_40_23 : ja_code tc_40 23 = js_istore 1 24 := rfl
theorem kc_40_24 : ja_code tc_40 24 = js_iload 1 25 := rfl
theorem kc_40_25 : ja_code tc_40 25 = js_ic 160 28 := rfl
theorem kc_40_28 : ja_code tc_40 28 = js_ic2 (fun x y => y ≤ x) 51 31 := rfl
theorem kc_40_31 : ja_code tc_40 31 = js_aload 0 32 := rfl
theorem kc_40_32 : ja_code tc_40 32 = js_get jl_c 5 2 35 := rfl
theorem kc_40_35 : ja_code tc_40 35 = js_iload 1 36 := rfl
theorem kc_40_36 : ja_code tc_40 36 = js_ic 0 37 := rfl
theorem kc_40_37 : ja_code tc_40 37 = js_ast jl_c 38 := rfl
theorem kc_40_38 : ja_code tc_40 38 = js_aload 0 39 := rfl
theorem kc_40_39 : ja_code tc_40 39 = js_get jl_c 5 3 42 := rfl
theorem kc_40_42 : ja_code tc_40 42 = js_iload 1 43 := rfl
theorem kc_40_43 : ja_code tc_40 43 = js_ic (-1) 44 := rfl
theorem kc_40_44 : ja_code tc_40 44 = js_ast jl_c 45 := rfl
theorem kc_40_45 : ja_code tc_40 45 = js_iinc 1 1 48 := rfl
theorem kc_40_48 : ja_code tc_40 48 = js_goto 24 := rfl
theorem kc_40_51 : ja_code tc_40 51 = js_ret := rfl
theorem kc_41_0 : ja_code tc_41 0 = js_aload 0 1 := rfl
theorem kc_41_1 : ja_code tc_41 1 = js_get jl_c 5 13 4 := rfl
theorem kc_41_4 : ja_code tc_41 4 = js_iret := rfl
theorem kc_42_0 : ja_code tc_42 0 = js_aload 0 1 := rfl
theorem kc_42_1 : ja_code tc_42 1 = js_dup 2 := rfl
theorem kc_42_2 : ja_code tc_42 2 = js_get jl_c 5 13 5 := rfl
theorem kc_42_5 : ja_code tc_42 5 = js_ic 1 6 := rfl
theorem kc_42_6 : ja_code tc_42 6 = js_ib (fun x y => x + y) 7 := rfl
theorem kc_42_7 : ja_code tc_42 7 = js_put jl_c 5 13 10 := rfl
theorem kc_42_10 : ja_code tc_42 10 = js_aload 0 11 := rfl
theorem kc_42_11 : ja_code tc_42 11 = js_get jl_c 5 13 14 := rfl
theorem kc_42_14 : ja_code tc_42 14 = js_ic 1 15 := rfl
theorem kc_42_15 : ja_code tc_42 15 = js_ib (fun x y => x - y) 16 := rfl
theorem kc_42_16 : ja_code tc_42 16 = js_iret := rfl
theorem kc_43_0 : ja_code tc_43 0 = js_aload 0 1 := rfl
theorem kc_43_1 : ja_code tc_43 1 = js_get jl_c 5 12 4 := rfl
theorem kc_43_4 : ja_code tc_43 4 = js_ic 8 6 := rfl
theorem kc_43_6 : ja_code tc_43 6 = js_ic2 (fun x y => y < x) 29 9 := rfl
theorem kc_43_9 : ja_code tc_43 9 = js_aload 0 10 := rfl
theorem kc_43_10 : ja_code tc_43 10 = js_dup 11 := rfl
theorem kc_43_11 : ja_code tc_43 11 = js_get jl_c 5 12 14 := rfl
theorem kc_43_14 : ja_code tc_43 14 = js_ic 1 15 := rfl
theorem kc_43_15 : ja_code tc_43 15 = js_ib (fun x y => x + y) 16 := rfl
theorem kc_43_16 : ja_code tc_43 16 = js_put jl_c 5 12 19 := rfl
theorem kc_43_19 : ja_code tc_43 19 = js_aload 0 20 := rfl
theorem kc_43_20 : ja_code tc_43 20 = js_get jl_c 5 11 23 := rfl
theorem kc_43_23 : ja_code tc_43 23 = js_aload 0 24 := rfl
theorem kc_43_24 : ja_code tc_43 24 = js_get jl_c 5 12 27 := rfl
theorem kc_43_27 : ja_code tc_43 27 = js_iload 1 28 := rfl
theorem kc_43_28 : ja_code tc_43 28 = js_ast jl_c 29 := rfl
theorem kc_43_29 : ja_code tc_43 29 = js_ret := rfl
theorem kc_44_0 : ja_code tc_44 0 = js_aload 0 1 := rfl
theorem kc_44_1 : ja_code tc_44 1 = js_get jl_c 5 12 4 := rfl
theorem kc_44_4 : ja_code tc_44 4 = js_if (fun x => x ≤ 0) 17 7 := rfl
theorem kc_44_7 : ja_code tc_44 7 = js_aload 0 8 := rfl
theorem kc_44_8 : ja_code tc_44 8 = js_dup 9 := rfl
theorem kc_44_9 : ja_code tc_44 9 = js_get jl_c 5 12 12 := rfl
theorem kc_44_12 : ja_code tc_44 12 = js_ic 1 13 := rfl
theorem kc_44_13 : ja_code tc_44 13 = js_ib (fun x y => x - y) 14 := rfl
theorem kc_44_14 : ja_code tc_44 14 = js_put jl_c 5 12 17 := rfl
theorem kc_44_17 : ja_code tc_44 17 = js_ret := rfl
theorem kc_45_0 : ja_code tc_45 0 = js_ic (-1) 1 := rfl
theorem kc_45_1 : ja_code tc_45 1 = js_istore 2 2 := rfl
theorem kc_45_2 : ja_code tc_45 2 = js_ic 0 3 := rfl
theorem kc_45_3 : ja_code tc_45 3 = js_istore 3 4 := rfl
theorem kc_45_4 : ja_code tc_45 4 = js_iload 3 5 := rfl
theorem kc_45_5 : ja_code tc_45 5 = js_aload 0 6 := rfl
theorem kc_45_6 : ja_code tc_45 6 = js_get jl_c 5 4 9 := rfl
theorem kc_45_9 : ja_code tc_45 9 = js_ic2 (fun x y => y ≤ x) 124 12 := rfl
theorem kc_45_12 : ja_code tc_45 12 = js_aload 0 13 := rfl
theorem kc_45_13 : ja_code tc_45 13 = js_get jl_c 5 6 16 := rfl
theorem kc_45_16 : ja_code tc_45 16 = js_iload 3 17 := rfl
theorem kc_45_17 : ja_code tc_45 17 = js_ald jl_c 0 18 := rfl
theorem kc_45_18 : ja_code tc_45 18 = js_aload 0 19 := rfl
theorem kc_45_19 : ja_code tc_45 19 = js_get jl_c 5 12 22 := rfl
theorem kc_45_22 : ja_code tc_45 22 = js_ic2 (fun x y => y < x) 49 25 := rfl
theorem kc_45_25 : ja_code tc_45 25 = js_aload 0 26 := rfl
theorem kc_45_26 : ja_code tc_45 26 = js_get jl_c 5 11 29 := rfl
theorem kc_45_29 : ja_code tc_45 29 = js_aload 0 30 := rfl
theorem kc_45_30 : ja_code tc_45 30 = js_get jl_c 5 6 33 := rfl
theorem kc_45_33 : ja_code tc_45 33 = js_iload 3 34 := rfl
theorem kc_45_34 : ja_code tc_45 34 = js_ald jl_c 0 35 := rfl
theorem kc_45_35 : ja_code tc_45 35 = js_ald jl_c 0 36 := rfl
theorem kc_45_36 : ja_code tc_45 36 = js_aload 0 37 := rfl
theorem kc_45_37 : ja_code tc_45 37 = js_get jl_c 5 10 40 := rfl
theorem kc_45_40 : ja_code tc_45 40 = js_iload 3 41 := rfl
theorem kc_45_41 : ja_code tc_45 41 = js_ald jl_c 0 42 := rfl
theorem kc_45_42 : ja_code tc_45 42 = js_ic2 (fun x y => x = y) 45 49 := rfl
theorem kc_45_45 : ja_code tc_45 45 = js_ic 1 46 := rfl
theorem kc_45_46 : ja_code tc_45 46 = js_goto 50 := rfl
theorem kc_45_49 : ja_code tc_45 49 = js_ic 0 50 := rfl
theorem kc_45_50 : ja_code tc_45 50 = js_istore 4 52 := rfl
theorem kc_45_52 : ja_code tc_45 52 = js_iload 2 53 := rfl
theorem kc_45_53 : ja_code tc_45 53 = js_ic (-1) 54 := rfl
theorem kc_45_54 : ja_code tc_45 54 = js_ic2 (fun x y => x = y) 72 57 := rfl
theorem kc_45_57 : ja_code tc_45 57 = js_aload 0 58 := rfl
theorem kc_45_58 : ja_code tc_45 58 = js_get jl_c 5 6 61 := rfl
theorem kc_45_61 : ja_code tc_45 61 = js_iload 3 62 := rfl
theorem kc_45_62 : ja_code tc_45 62 = js_ald jl_c 0 63 := rfl
theorem kc_45_63 : ja_code tc_45 63 = js_aload 0 64 := rfl
theorem kc_45_64 : ja_code tc_45 64 = js_get jl_c 5 6 67 := rfl
theorem kc_45_67 : ja_code tc_45 67 = js_iload 2 68 := rfl
theorem kc_45_68 : ja_code tc_45 68 = js_ald jl_c 0 69 := rfl
theorem kc_45_69 : ja_code tc_45 69 = js_ic2 (fun x y => x ≤ y) 76 72 := rfl
theorem kc_45_72 : ja_code tc_45 72 = js_ic 1 73 := rfl
theorem kc_45_73 : ja_code tc_45 73 = js_goto 77 := rfl
theorem kc_45_76 : ja_code tc_45 76 = js_ic 0 77 := rfl
theorem kc_45_77 : ja_code tc_45 77 = js_istore 5 79 := rfl
theorem kc_45_79 : ja_code tc_45 79 = js_iload 4 81 := rfl
theorem kc_45_81 : ja_code tc_45 81 = js_if (fun x => x = 0) 118 84 := rfl
theorem kc_45_84 : ja_code tc_45 84 = js_iload 5 86 := rfl
theorem kc_45_86 : ja_code tc_45 86 = js_if (fun x => x = 0) 118 89 := rfl
theorem kc_45_89 : ja_code tc_45 89 = js_aload 0 90 := rfl
theorem kc_45_90 : ja_code tc_45 90 = js_get jl_c 5 0 93 := rfl
theorem kc_45_93 : ja_code tc_45 93 = js_get jl_c 3 1 96 := rfl
theorem kc_45_96 : ja_code tc_45 96 = js_aload 0 97 := rfl
theorem kc_45_97 : ja_code tc_45 97 = js_get jl_c 5 5 100 := rfl
theorem kc_45_100 : ja_code tc_45 100 = js_iload 3 101 := rfl
theorem kc_45_101 : ja_code tc_45 101 = js_ald jl_c 0 102 := rfl
theorem kc_45_102 : ja_code tc_45 102 = js_lald jl_c 103 := rfl
theorem kc_45_103 : ja_code tc_45 103 = js_aload 0 104 := rfl
theorem kc_45_104 : ja_code tc_45 104 = js_get jl_c 5 0 107 := rfl
theorem kc_45_107 : ja_code tc_45 107 = js_get jl_c 3 1 110 := rfl
theorem kc_45_110 : ja_code tc_45 110 = js_iload 1 111 := rfl
theorem kc_45_111 : ja_code tc_45 111 = js_lald jl_c 112 := rfl
theorem kc_45_112 : ja_code tc_45 112 = js_lcmp 113 := rfl
theorem kc_45_113 : ja_code tc_45 113 = js_if (fun x => x = 0) 116 118 := rfl
theorem kc_45_116 : ja_code tc_45 116 = js_iload 3 117 := rfl
theorem kc_45_117 : ja_code tc_45 117 = js_istore 2 118 := rfl
theorem kc_45_118 : ja_code tc_45 118 = js_iinc 3 1 121 := rfl
theorem kc_45_121 : ja_code tc_45 121 = js_goto 4 := rfl
theorem kc_45_124 : ja_code tc_45 124 = js_iload 2 125 := rfl
theorem kc_45_125 : ja_code tc_45 125 = js_iret := rfl
theorem kc_46_0 : ja_code tc_46 0 = js_aload 0 1 := rfl
theorem kc_46_1 : ja_code tc_46 1 = js_get jl_c 5 0 4 := rfl
theorem kc_46_4 : ja_code tc_46 4 = js_iload 1 5 := rfl
theorem kc_46_5 : ja_code tc_46 5 = js_cv jl_c 3 22 1 8 := rfl
theorem kc_46_8 : ja_code tc_46 8 = js_istore 2 9 := rfl
theorem kc_46_9 : ja_code tc_46 9 = js_iload 2 10 := rfl
theorem kc_46_10 : ja_code tc_46 10 = js_ic 2 11 := rfl
theorem kc_46_11 : ja_code tc_46 11 = js_ic2 (fun x y => x = y) 37 14 := rfl
theorem kc_46_14 : ja_code tc_46 14 = js_iload 2 15 := rfl
theorem kc_46_15 : ja_code tc_46 15 = js_ic 5 16 := rfl
theorem kc_46_16 : ja_code tc_46 16 = js_ic2 (fun x y => x = y) 31 19 := rfl
theorem kc_46_19 : ja_code tc_46 19 = js_iload 2 20 := rfl
theorem kc_46_20 : ja_code tc_46 20 = js_ic 6 22 := rfl
theorem kc_46_22 : ja_code tc_46 22 = js_ic2 (fun x y => x = y) 31 25 := rfl
theorem kc_46_25 : ja_code tc_46 25 = js_iload 2 26 := rfl
theorem kc_46_26 : ja_code tc_46 26 = js_ic 7 28 := rfl
theorem kc_46_28 : ja_code tc_46 28 = js_ic2 (fun x y => x = y) 31 35 := rfl
theorem kc_46_31 : ja_code tc_46 31 = js_ic 1 32 := rfl
theorem kc_46_32 : ja_code tc_46 32 = js_goto 36 := rfl
theorem kc_46_35 : ja_code tc_46 35 = js_ic 0 36 := rfl
theorem kc_46_36 : ja_code tc_46 36 = js_zret := rfl
theorem kc_46_37 : ja_code tc_46 37 = js_aload 0 38 := rfl
theorem kc_46_38 : ja_code tc_46 38 = js_iload 1 39 := rfl
theorem kc_46_39 : ja_code tc_46 39 = js_cv jl_c 5 45 1 42 := rfl
theorem kc_46_42 : ja_code tc_46 42 = js_istore 3 43 := rfl
theorem kc_46_43 : ja_code tc_46 43 = js_iload 3 44 := rfl
theorem kc_46_44 : ja_code tc_46 44 = js_ic (-1) 45 := rfl
theorem kc_46_45 : ja_code tc_46 45 = js_ic2 (fun x y => x = y) 62 48 := rfl
theorem kc_46_48 : ja_code tc_46 48 = js_aload 0 49 := rfl
theorem kc_46_49 : ja_code tc_46 49 = js_get jl_c 5 9 52 := rfl
theorem kc_46_52 : ja_code tc_46 52 = js_iload 3 53 := rfl
theorem kc_46_53 : ja_code tc_46 53 = js_ald jl_c 0 54 := rfl
theorem kc_46_54 : ja_code tc_46 54 = js_ic 1 55 := rfl
theorem kc_46_55 : ja_code tc_46 55 = js_ic2 (fun x y => x = y) 58 62 := rfl
theorem kc_46_58 : ja_code tc_46 58 = js_ic 1 59 := rfl
theorem kc_46_59 : ja_code tc_46 59 = js_goto 63 := rfl
theorem kc_46_62 : ja_code tc_46 62 = js_ic 0 63 := rfl
theorem kc_46_63 : ja_code tc_46 63 = js_zret := rfl
theorem kc_47_0 : ja_code tc_47 0 = js_aload 0 1 := rfl
theorem kc_47_1 : ja_code tc_47 1 = js_iload 1 2 := rfl
theorem kc_47_2 : ja_code tc_47 2 = js_cv jl_c 5 45 1 5 := rfl
theorem kc_47_5 : ja_code tc_47 5 = js_istore 2 6 := rfl
theorem kc_47_6 : ja_code tc_47 6 = js_iload 2 7 := rfl
theorem kc_47_7 : ja_code tc_47 7 = js_ic (-1) 8 := rfl
theorem kc_47_8 : ja_code tc_47 8 = js_ic2 (fun x y => x = y) 25 11 := rfl
theorem kc_47_11 : ja_code tc_47 11 = js_aload 0 12 := rfl
theorem kc_47_12 : ja_code tc_47 12 = js_get jl_c 5 9 15 := rfl
theorem kc_47_15 : ja_code tc_47 15 = js_iload 2 16 := rfl
theorem kc_47_16 : ja_code tc_47 16 = js_ald jl_c 0 17 := rfl
theorem kc_47_17 : ja_code tc_47 17 = js_ic 1 18 := rfl
theorem kc_47_18 : ja_code tc_47 18 = js_ic2 (fun x y => x = y) 25 21 := rfl
theorem kc_47_21 : ja_code tc_47 21 = js_ic 1 22 := rfl
theorem kc_47_22 : ja_code tc_47 22 = js_goto 26 := rfl
theorem kc_47_25 : ja_code tc_47 25 = js_ic 0 26 := rfl
theorem kc_47_26 : ja_code tc_47 26 = js_zret := rfl
theorem kc_48_0 : ja_code tc_48 0 = js_aload 0 1 := rfl
theorem kc_48_1 : ja_code tc_48 1 = js_iload 1 2 := rfl
theorem kc_48_2 : ja_code tc_48 2 = js_cv jl_c 5 45 1 5 := rfl
theorem kc_48_5 : ja_code tc_48 5 = js_istore 2 6 := rfl
theorem kc_48_6 : ja_code tc_48 6 = js_iload 2 7 := rfl
theorem kc_48_7 : ja_code tc_48 7 = js_ic (-1) 8 := rfl
theorem kc_48_8 : ja_code tc_48 8 = js_ic2 (fun x y => x = y) 24 11 := rfl
theorem kc_48_11 : ja_code tc_48 11 = js_aload 0 12 := rfl
theorem kc_48_12 : ja_code tc_48 12 = js_get jl_c 5 6 15 := rfl
theorem kc_48_15 : ja_code tc_48 15 = js_iload 2 16 := rfl
theorem kc_48_16 : ja_code tc_48 16 = js_ald jl_c 0 17 := rfl
theorem kc_48_17 : ja_code tc_48 17 = js_aload 0 18 := rfl
theorem kc_48_18 : ja_code tc_48 18 = js_get jl_c 5 12 21 := rfl
theorem kc_48_21 : ja_code tc_48 21 = js_ic2 (fun x y => y ≤ x) 28 24 := rfl
theorem kc_48_24 : ja_code tc_48 24 = js_ic 1 25 := rfl
theorem kc_48_25 : ja_code tc_48 25 = js_goto 29 := rfl
theorem kc_48_28 : ja_code tc_48 28 = js_ic 0 29 := rfl
theorem kc_48_29 : ja_code tc_48 29 = js_zret := rfl
theorem kc_49_0 : ja_code tc_49 0 = js_aload 0 1 := rfl
theorem kc_49_1 : ja_code tc_49 1 = js_iload 1 2 := rfl
theorem kc_49_2 : ja_code tc_49 2 = js_cv jl_c 5 45 1 5 := rfl
theorem kc_49_5 : ja_code tc_49 5 = js_istore 2 6 := rfl
theorem kc_49_6 : ja_code tc_49 6 = js_iload 2 7 := rfl
theorem kc_49_7 : ja_code tc_49 7 = js_ic (-1) 8 := rfl
theorem kc_49_8 : ja_code tc_49 8 = js_ic2 (fun x y => x = y) 39 11 := rfl
theorem kc_49_11 : ja_code tc_49 11 = js_aload 0 12 := rfl
theorem kc_49_12 : ja_code tc_49 12 = js_get jl_c 5 2 15 := rfl
theorem kc_49_15 : ja_code tc_49 15 = js_iload 1 16 := rfl
theorem kc_49_16 : ja_code tc_49 16 = js_aload 0 17 := rfl
theorem kc_49_17 : ja_code tc_49 17 = js_get jl_c 5 9 20 := rfl
theorem kc_49_20 : ja_code tc_49 20 = js_iload 2 21 := rfl
theorem kc_49_21 : ja_code tc_49 21 = js_ald jl_c 0 22 := rfl
theorem kc_49_22 : ja_code tc_49 22 = js_ic 1 23 := rfl
theorem kc_49_23 : ja_code tc_49 23 = js_ic2 (fun x y => x = y) 26 30 := rfl
theorem kc_49_26 : ja_code tc_49 26 = js_ic 1 27 := rfl
theorem kc_49_27 : ja_code tc_49 27 = js_goto 31 := rfl
theorem kc_49_30 : ja_code tc_49 30 = js_ic 2 31 := rfl
theorem kc_49_31 : ja_code tc_49 31 = js_ast jl_c 32 := rfl
theorem kc_49_32 : ja_code tc_49 32 = js_aload 0 33 := rfl
theorem kc_49_33 : ja_code tc_49 33 = js_get jl_c 5 3 36 := rfl
theorem kc_49_36 : ja_code tc_49 36 = js_iload 1 37 := rfl
theorem kc_49_37 : ja_code tc_49 37 = js_iload 2 38 := rfl
theorem kc_49_38 : ja_code tc_49 38 = js_ast jl_c 39 := rfl
theorem kc_49_39 : ja_code tc_49 39 = js_ret := rfl
theorem kc_50_0 : ja_code tc_50 0 = js_aload 0 1 := rfl
theorem kc_50_1 : ja_code tc_50 1 = js_get jl_c 5 4 4 := rfl
theorem kc_50_4 : ja_code tc_50 4 = js_ic 79 6 := rfl
theorem kc_50_6 : ja_code tc_50 6 = js_min 9 := rfl
theorem kc_50_9 : ja_code tc_50 9 = js_istore 4 11 := rfl
theorem kc_50_11 : ja_code tc_50 11 = js_aload 0 12 := rfl
theorem kc_50_12 : ja_code tc_50 12 = js_get jl_c 5 5 15 := rfl
theorem kc_50_15 : ja_code tc_50 15 = js_iload 4 17 := rfl
theorem kc_50_17 : ja_code tc_50 17 = js_iload 1 18 := rfl
theorem kc_50_18 : ja_code tc_50 18 = js_ast jl_c 19 := rfl
theorem kc_50_19 : ja_code tc_50 19 = js_aload 0 20 := rfl
theorem kc_50_20 : ja_code tc_50 20 = js_get jl_c 5 10 23 := rfl
theorem kc_50_23 : ja_code tc_50 23 = js_iload 4 25 := rfl
theorem kc_50_25 : ja_code tc_50 25 = js_aload 0 26 := rfl
theorem kc_50_26 : ja_code tc_50 26 = js_get jl_c 5 11 29 := rfl
theorem kc_50_29 : ja_code tc_50 29 = js_aload 0 30 := rfl
theorem kc_50_30 : ja_code tc_50 30 = js_get jl_c 5 12 33 := rfl
theorem kc_50_33 : ja_code tc_50 33 = js_ald jl_c 0 34 := rfl
theorem kc_50_34 : ja_code tc_50 34 = js_ast jl_c 35 := rfl
theorem kc_50_35 : ja_code tc_50 35 = js_aload 0 36 := rfl
theorem kc_50_36 : ja_code tc_50 36 = js_get jl_c 5 6 39 := rfl
theorem kc_50_39 : ja_code tc_50 39 = js_iload 4 41 := rfl
theorem kc_50_41 : ja_code tc_50 41 = js_aload 0 42 := rfl
theorem kc_50_42 : ja_code tc_50 42 = js_get jl_c 5 12 45 := rfl
theorem kc_50_45 : ja_code tc_50 45 = js_ast jl_c 46 := rfl
theorem kc_50_46 : ja_code tc_50 46 = js_aload 0 47 := rfl
theorem kc_50_47 : ja_code tc_50 47 = js_get jl_c 5 7 50 := rfl
theorem kc_50_50 : ja_code tc_50 50 = js_iload 4 52 := rfl
theorem kc_50_52 : ja_code tc_50 52 = js_iload 2 53 := rfl
theorem kc_50_53 : ja_code tc_50 53 = js_ast jl_c 54 := rfl
theorem kc_50_54 : ja_code tc_50 54 = js_aload 0 55 := rfl
theorem kc_50_55 : ja_code tc_50 55 = js_get jl_c 5 8 58 := rfl
theorem kc_50_58 : ja_code tc_50 58 = js_iload 4 60 := rfl
theorem kc_50_60 : ja_code tc_50 60 = js_aload 0 61 := rfl
theorem kc_50_61 : ja_code tc_50 61 = js_get jl_c 5 1 64 := rfl
theorem kc_50_64 : ja_code tc_50 64 = js_get jl_c 2 1 67 := rfl
theorem kc_50_67 : ja_code tc_50 67 = js_ast jl_c 68 := rfl
theorem kc_50_68 : ja_code tc_50 68 = js_aload 0 69 := rfl
theorem kc_50_69 : ja_code tc_50 69 = js_get jl_c 5 9 72 := rfl
theorem kc_50_72 : ja_code tc_50 72 = js_iload 4 74 := rfl
theorem kc_50_74 : ja_code tc_50 74 = js_aload 0 75 := rfl
theorem kc_50_75 : ja_code tc_50 75 = js_iload 2 76 := rfl
theorem kc_50_76 : ja_code tc_50 76 = js_iload 3 77 := rfl
theorem kc_50_77 : ja_code tc_50 77 = js_cv jl_c 5 51 2 80 := rfl
theorem kc_50_80 : ja_code tc_50 80 = js_ast jl_c 81 := rfl
theorem kc_50_81 : ja_code tc_50 81 = js_aload 0 82 := rfl
theorem kc_50_82 : ja_code tc_50 82 = js_iload 4 84 := rfl
theorem kc_50_84 : ja_code tc_50 84 = js_ic 1 85 := rfl
theorem kc_50_85 : ja_code tc_50 85 = js_ib (fun x y => x + y) 86 := rfl
theorem kc_50_86 : ja_code tc_50 86 = js_put jl_c 5 4 89 := rfl
theorem kc_50_89 : ja_code tc_50 89 = js_aload 0 90 := rfl
theorem kc_50_90 : ja_code tc_50 90 = js_get jl_c 5 2 93 := rfl
theorem kc_50_93 : ja_code tc_50 93 = js_iload 1 94 := rfl
theorem kc_50_94 : ja_code tc_50 94 = js_iload 3 95 := rfl
theorem kc_50_95 : ja_code tc_50 95 = js_if (fun x => x = 0) 102 98 := rfl
theorem kc_50_98 : ja_code tc_50 98 = js_ic 3 99 := rfl
theorem kc_50_99 : ja_code tc_50 99 = js_goto 103 := rfl
theorem kc_50_102 : ja_code tc_50 102 = js_ic 4 103 := rfl
theorem kc_50_103 : ja_code tc_50 103 = js_ast jl_c 104 := rfl
theorem kc_50_104 : ja_code tc_50 104 = js_aload 0 105 := rfl
theorem kc_50_105 : ja_code tc_50 105 = js_get jl_c 5 3 108 := rfl
theorem kc_50_108 : ja_code tc_50 108 = js_iload 1 109 := rfl
theorem kc_50_109 : ja_code tc_50 109 = js_iload 4 111 := rfl
theorem kc_50_111 : ja_code tc_50 111 = js_ast jl_c 112 := rfl
theorem kc_50_112 : ja_code tc_50 112 = js_iload 4 114 := rfl
theorem kc_50_114 : ja_code tc_50 114 = js_iret := rfl
theorem kc_51_0 : ja_code tc_51 0 = js_iload 2 1 := rfl
theorem kc_51_1 : ja_code tc_51 1 = js_if (fun x => x = 0) 6 4 := rfl
theorem kc_51_4 : ja_code tc_51 4 = js_ic 1 5 := rfl
theorem kc_51_5 : ja_code tc_51 5 = js_iret := rfl
theorem kc_51_6 : ja_code tc_51 6 = js_aload 0 7 := rfl
theorem kc_51_7 : ja_code tc_51 7 = js_get jl_c 5 1 10 := rfl
theorem kc_51_10 : ja_code tc_51 10 = js_iload 1 11 := rfl
theorem kc_51_11 : ja_code tc_51 11 = js_cv jl_c 2 16 1 14 := rfl
theorem kc_51_14 : ja_code tc_51 14 = js_ic 40 16 := rfl
theorem kc_51_16 : ja_code tc_51 16 = js_ic2 (fun x y => x = y) 19 23 := rfl
theorem kc_51_19 : ja_code tc_51 19 = js_ic 2 20 := rfl
theorem kc_51_20 : ja_code tc_51 20 = js_goto 24 := rfl
theorem kc_51_23 : ja_code tc_51 23 = js_ic 0 24 := rfl
theorem kc_51_24 : ja_code tc_51 24 = js_iret := rfl
theorem kc_52_0 : ja_code tc_52 0 = js_aload 0 1 := rfl
theorem kc_52_1 : ja_code tc_52 1 = js_get jl_c 6 0 4 := rfl
theorem kc_52_4 : ja_code tc_52 4 = js_aload 0 5 := rfl
theorem kc_52_5 : ja_code tc_52 5 = js_get jl_c 6 2 8 := rfl
theorem kc_52_8 : ja_code tc_52 8 = js_aload 0 9 := rfl
theorem kc_52_9 : ja_code tc_52 9 = js_get jl_c 6 0 12 := rfl
theorem kc_52_12 : ja_code tc_52 12 = js_get jl_c 4 1 15 := rfl
theorem kc_52_15 : ja_code tc_52 15 = js_cv jl_c 5 46 1 18 := rfl
theorem kc_52_18 : ja_code tc_52 18 = js_xv jl_c 4 36 1 21 := rfl
theorem kc_52_21 : ja_code tc_52 21 = js_aload 0 22 := rfl
theorem kc_52_22 : ja_code tc_52 22 = js_get jl_c 6 0 25 := rfl
theorem kc_52_25 : ja_code tc_52 25 = js_xv jl_c 4 37 0 28 := rfl
theorem kc_52_28 : ja_code tc_52 28 = js_istore 1 29 := rfl
theorem kc_52_29 : ja_code tc_52 29 = js_aload 0 30 := rfl
theorem kc_52_30 : ja_code tc_52 30 = js_get jl_c 6 1 33 := rfl
theorem kc_52_33 : ja_code tc_52 33 = js_iload 1 34 := rfl
theorem kc_52_34 : ja_code tc_52 34 = js_cv jl_c 3 22 1 37 := rfl
theorem kc_52_37 : ja_code tc_52 37 = js_ic 2 38 := rfl
theorem kc_52_38 : ja_code tc_52 38 = js_ic2 (fun x y => x = y) 41 49 := rfl
theorem kc_52_41 : ja_code tc_52 41 = js_aload 0 42 := rfl
theorem kc_52_42 : ja_code tc_52 42 = js_get jl_c 6 2 45 := rfl
theorem kc_52_45 : ja_code tc_52 45 = js_iload 1 46 := rfl
theorem kc_52_46 : ja_code tc_52 46 = js_cv jl_c 5 49 1 49 := rfl
theorem kc_52_49 : ja_code tc_52 49 = js_iload 1 50 := rfl
theorem kc_52_50 : ja_code tc_52 50 = js_iret := rfl
theorem kc_53_0 : ja_code tc_53 0 = js_aload 0 1 := rfl
theorem kc_53_1 : ja_code tc_53 1 = js_get jl_c 6 1 4 := rfl
theorem kc_53_4 : ja_code tc_53 4 = js_iload 1 5 := rfl
theorem kc_53_5 : ja_code tc_53 5 = js_cv jl_c 3 22 1 8 := rfl
theorem kc_53_8 : ja_code tc_53 8 = js_sw [(5, 36), (6, 48), (7, 60)] 72 := rfl
theorem kc_53_36 : ja_code tc_53 36 = js_aload 0 37 := rfl
theorem kc_53_37 : ja_code tc_53 37 = js_get jl_c 6 3 40 := rfl
theorem kc_53_40 : ja_code tc_53 40 = js_ic 105 42 := rfl
theorem kc_53_42 : ja_code tc_53 42 = js_cv jl_c 2 17 1 45 := rfl
theorem kc_53_45 : ja_code tc_53 45 = js_goto 97 := rfl
theorem kc_53_48 : ja_code tc_53 48 = js_aload 0 49 := rfl
theorem kc_53_49 : ja_code tc_53 49 = js_get jl_c 6 3 52 := rfl
theorem kc_53_52 : ja_code tc_53 52 = js_ic 99 54 := rfl
theorem kc_53_54 : ja_code tc_53 54 = js_cv jl_c 2 17 1 57 := rfl
theorem kc_53_57 : ja_code tc_53 57 = js_goto 97 := rfl
theorem kc_53_60 : ja_code tc_53 60 = js_aload 0 61 := rfl
theorem kc_53_61 : ja_code tc_53 61 = js_get jl_c 6 3 64 := rfl
theorem kc_53_64 : ja_code tc_53 64 = js_ic 118 66 := rfl
theorem kc_53_66 : ja_code tc_53 66 = js_cv jl_c 2 17 1 69 := rfl
theorem kc_53_69 : ja_code tc_53 69 = js_goto 97 := rfl
theorem kc_53_72 : ja_code tc_53 72 = js_aload 0 73 := rfl
theorem kc_53_73 : ja_code tc_53 73 = js_get jl_c 6 3 76 := rfl
theorem kc_53_76 : ja_code tc_53 76 = js_aload 0 77 := rfl
theorem kc_53_77 : ja_code tc_53 77 = js_get jl_c 6 2 80 := rfl
theorem kc_53_80 : ja_code tc_53 80 = js_get jl_c 5 3 83 := rfl
theorem kc_53_83 : ja_code tc_53 83 = js_iload 1 84 := rfl
theorem kc_53_84 : ja_code tc_53 84 = js_ald jl_c 0 85 := rfl
theorem kc_53_85 : ja_code tc_53 85 = js_cv jl_c 2 21 1 88 := rfl
theorem kc_53_88 : ja_code tc_53 88 = js_aload 0 89 := rfl
theorem kc_53_89 : ja_code tc_53 89 = js_get jl_c 6 3 92 := rfl
theorem kc_53_92 : ja_code tc_53 92 = js_ic 46 94 := rfl
theorem kc_53_94 : ja_code tc_53 94 = js_cv jl_c 2 17 1 97 := rfl
theorem kc_53_97 : ja_code tc_53 97 = js_ret := rfl
theorem kc_54_0 : ja_code tc_54 0 = js_aload 0 1 := rfl
theorem kc_54_1 : ja_code tc_54 1 = js_get jl_c 6 3 4 := rfl
theorem kc_54_4 : ja_code tc_54 4 = js_get jl_c 2 1 7 := rfl
theorem kc_54_7 : ja_code tc_54 7 = js_istore 3 8 := rfl
theorem kc_54_8 : ja_code tc_54 8 = js_aload 0 9 := rfl
theorem kc_54_9 : ja_code tc_54 9 = js_ic 0 10 := rfl
theorem kc_54_10 : ja_code tc_54 10 = js_xv jl_c 6 56 1 13 := rfl
theorem kc_54_13 : ja_code tc_54 13 = js_istore 4 15 := rfl
theorem kc_54_15 : ja_code tc_54 15 = js_aload 0 16 := rfl
theorem kc_54_16 : ja_code tc_54 16 = js_iload 1 17 := rfl
theorem kc_54_17 : ja_code tc_54 17 = js_cv jl_c 6 53 1 20 := rfl
theorem kc_54_20 : ja_code tc_54 20 = js_aload 0 21 := rfl
theorem kc_54_21 : ja_code tc_54 21 = js_get jl_c 6 2 24 := rfl
theorem kc_54_24 : ja_code tc_54 24 = js_iload 4 26 := rfl
theorem kc_54_26 : ja_code tc_54 26 = js_iload 3 27 := rfl
theorem kc_54_27 : ja_code tc_54 27 = js_iload 2 28 := rfl
theorem kc_54_28 : ja_code tc_54 28 = js_cv jl_c 5 50 3 31 := rfl
theorem kc_54_31 : ja_code tc_54 31 = js_iret := rfl
theorem kc_55_0 : ja_code tc_55 0 = js_aload 0 1 := rfl
theorem kc_55_1 : ja_code tc_55 1 = js_get jl_c 6 3 4 := rfl
theorem kc_55_4 : ja_code tc_55 4 = js_get jl_c 2 1 7 := rfl
theorem kc_55_7 : ja_code tc_55 7 = js_istore 2 8 := rfl
theorem kc_55_8 : ja_code tc_55 8 = js_aload 0 9 := rfl
theorem kc_55_9 : ja_code tc_55 9 = js_xv jl_c 6 52 0 12 := rfl
theorem kc_55_12 : ja_code tc_55 12 = js_istore 3 13 := rfl
theorem kc_55_13 : ja_code tc_55 13 = js_aload 0 14 := rfl
theorem kc_55_14 : ja_code tc_55 14 = js_iload 1 15 := rfl
theorem kc_55_15 : ja_code tc_55 15 = js_xv jl_c 6 56 1 18 := rfl
theorem kc_55_18 : ja_code tc_55 18 = js_istore 4 20 := rfl
theorem kc_55_20 : ja_code tc_55 20 = js_aload 0 21 := rfl
theorem kc_55_21 : ja_code tc_55 21 = js_iload 3 22 := rfl
theorem kc_55_22 : ja_code tc_55 22 = js_cv jl_c 6 53 1 25 := rfl
theorem kc_55_25 : ja_code tc_55 25 = js_iload 4 27 := rfl
theorem kc_55_27 : ja_code tc_55 27 = js_ic (-1) 28 := rfl
theorem kc_55_28 : ja_code tc_55 28 = js_ic2 (fun x y => x = y) 43 31 := rfl
theorem kc_55_31 : ja_code tc_55 31 = js_aload 0 32 := rfl
theorem kc_55_32 : ja_code tc_55 32 = js_get jl_c 6 2 35 := rfl
theorem kc_55_35 : ja_code tc_55 35 = js_iload 4 37 := rfl
theorem kc_55_37 : ja_code tc_55 37 = js_iload 2 38 := rfl
theorem kc_55_38 : ja_code tc_55 38 = js_ic 0 39 := rfl
theorem kc_55_39 : ja_code tc_55 39 = js_cv jl_c 5 50 3 42 := rfl
theorem kc_55_42 : ja_code tc_55 42 = js_pop 43 := rfl
theorem kc_55_43 : ja_code tc_55 43 = js_ret := rfl
theorem kc_56_0 : ja_code tc_56 0 = js_aload 0 1 := rfl
theorem kc_56_1 : ja_code tc_56 1 = js_xv jl_c 6 57 0 4 := rfl
theorem kc_56_4 : ja_code tc_56 4 = js_istore 2 5 := rfl
theorem kc_56_5 : ja_code tc_56 5 = js_aload 0 6 := rfl
theorem kc_56_6 : ja_code tc_56 6 = js_iload 1 7 := rfl
theorem kc_56_7 : ja_code tc_56 7 = js_xv jl_c 6 58 1 10 := rfl
theorem kc_56_10 : ja_code tc_56 10 = js_istore 3 11 := rfl
theorem kc_56_11 : ja_code tc_56 11 = js_ic 0 12 := rfl
theorem kc_56_12 : ja_code tc_56 12 = js_istore 4 14 := rfl
theorem kc_56_14 : ja_code tc_56 14 = js_iload 4 16 := rfl
theorem kc_56_16 : ja_code tc_56 16 = js_ic 160 19 := rfl
theorem kc_56_19 : ja_code tc_56 19 = js_ic2 (fun x y => y ≤ x) 75 22 := rfl
theorem kc_56_22 : ja_code tc_56 22 = js_aload 0 23 := rfl
theorem kc_56_23 : ja_code tc_56 23 = js_get jl_c 6 0 26 := rfl
theorem kc_56_26 : ja_code tc_56 26 = js_ic 91 28 := rfl
theorem kc_56_28 : ja_code tc_56 28 = js_cv jl_c 4 35 1 31 := rfl
theorem kc_56_31 : ja_code tc_56 31 = js_if (fun x => x = 0) 34 46 := rfl
theorem kc_56_34 : ja_code tc_56 34 = js_aload 0 35 := rfl
theorem kc_56_35 : ja_code tc_56 35 = js_get jl_c 6 0 38 := rfl
theorem kc_56_38 : ja_code tc_56 38 = js_ic 40 40 := rfl
theorem kc_56_40 : ja_code tc_56 40 = js_cv jl_c 4 35 1 43 := rfl
theorem kc_56_43 : ja_code tc_56 43 = js_if (fun x => x = 0) 75 46 := rfl
theorem kc_56_46 : ja_code tc_56 46 = js_aload 0 47 := rfl
theorem kc_56_47 : ja_code tc_56 47 = js_get jl_c 6 0 50 := rfl
theorem kc_56_50 : ja_code tc_56 50 = js_ic 91 52 := rfl
theorem kc_56_52 : ja_code tc_56 52 = js_cv jl_c 4 35 1 55 := rfl
theorem kc_56_55 : ja_code tc_56 55 = js_if (fun x => x = 0) 65 58 := rfl
theorem kc_56_58 : ja_code tc_56 58 = js_aload 0 59 := rfl
theorem kc_56_59 : ja_code tc_56 59 = js_xv jl_c 6 60 0 62 := rfl
theorem kc_56_62 : ja_code tc_56 62 = js_goto 69 := rfl
theorem kc_56_65 : ja_code tc_56 65 = js_aload 0 66 := rfl
theorem kc_56_66 : ja_code tc_56 66 = js_xv jl_c 6 61 0 69 := rfl
theorem kc_56_69 : ja_code tc_56 69 = js_iinc 4 1 72 := rfl
theorem kc_56_72 : ja_code tc_56 72 = js_goto 14 := rfl
theorem kc_56_75 : ja_code tc_56 75 = js_aload 0 76 := rfl
theorem kc_56_76 : ja_code tc_56 76 = js_get jl_c 6 3 79 := rfl
theorem kc_56_79 : ja_code tc_56 79 = js_ic 42 81 := rfl
theorem kc_56_81 : ja_code tc_56 81 = js_iload 2 82 := rfl
theorem kc_56_82 : ja_code tc_56 82 = js_cv jl_c 2 18 2 85 := rfl
theorem kc_56_85 : ja_code tc_56 85 = js_iload 3 86 := rfl
theorem kc_56_86 : ja_code tc_56 86 = js_iret := rfl
theorem kc_57_0 : ja_code tc_57 0 = js_ic 0 1 := rfl
theorem kc_57_1 : ja_code tc_57 1 = js_istore 1 2 := rfl
theorem kc_57_2 : ja_code tc_57 2 = js_ic 0 3 := rfl
theorem kc_57_3 : ja_code tc_57 3 = js_istore 2 4 := rfl
theorem kc_57_4 : ja_code tc_57 4 = js_iload 2 5 := rfl
theorem kc_57_5 : ja_code tc_57 5 = js_ic 160 8 := rfl
theorem kc_57_8 : ja_code tc_57 8 = js_ic2 (fun x y => y ≤ x) 40 11 := rfl
theorem kc_57_11 : ja_code tc_57 11 = js_aload 0 12 := rfl
theorem kc_57_12 : ja_code tc_57 12 = js_get jl_c 6 0 15 := rfl
theorem kc_57_15 : ja_code tc_57 15 = js_ic 42 17 := rfl
theorem kc_57_17 : ja_code tc_57 17 = js_cv jl_c 4 35 1 20 := rfl
theorem kc_57_20 : ja_code tc_57 20 = js_if (fun x => x = 0) 40 23 := rfl
theorem kc_57_23 : ja_code tc_57 23 = js_aload 0 24 := rfl
theorem kc_57_24 : ja_code tc_57 24 = js_get jl_c 6 0 27 := rfl
theorem kc_57_27 : ja_code tc_57 27 = js_xv jl_c 4 37 0 30 := rfl
theorem kc_57_30 : ja_code tc_57 30 = js_pop 31 := rfl
theorem kc_57_31 : ja_code tc_57 31 = js_iinc 1 1 34 := rfl
theorem kc_57_34 : ja_code tc_57 34 = js_iinc 2 1 37 := rfl
theorem kc_57_37 : ja_code tc_57 37 = js_goto 4 := rfl
theorem kc_57_40 : ja_code tc_57 40 = js_iload 1 41 := rfl
theorem kc_57_41 : ja_code tc_57 41 = js_iret := rfl
theorem kc_58_0 : ja_code tc_58 0 = js_aload 0 1 := rfl
theorem kc_58_1 : ja_code tc_58 1 = js_get jl_c 6 0 4 := rfl
theorem kc_58_4 : ja_code tc_58 4 = js_ic 2 5 := rfl
theorem kc_58_5 : ja_code tc_58 5 = js_cv jl_c 4 35 1 8 := rfl
theorem kc_58_8 : ja_code tc_58 8 = js_if (fun x => x = 0) 45 11 := rfl
theorem kc_58_11 : ja_code tc_58 11 = js_iload 1 12 := rfl
theorem kc_58_12 : ja_code tc_58 12 = js_ic 2 13 := rfl
theorem kc_58_13 : ja_code tc_58 13 = js_ic2 (fun x y => x = y) 45 16 := rfl
theorem kc_58_16 : ja_code tc_58 16 = js_aload 0 17 := rfl
theorem kc_58_17 : ja_code tc_58 17 = js_get jl_c 6 0 20 := rfl
theorem kc_58_20 : ja_code tc_58 20 = js_aload 0 21 := rfl
theorem kc_58_21 : ja_code tc_58 21 = js_get jl_c 6 2 24 := rfl
theorem kc_58_24 : ja_code tc_58 24 = js_aload 0 25 := rfl
theorem kc_58_25 : ja_code tc_58 25 = js_get jl_c 6 0 28 := rfl
theorem kc_58_28 : ja_code tc_58 28 = js_get jl_c 4 1 31 := rfl
theorem kc_58_31 : ja_code tc_58 31 = js_cv jl_c 5 48 1 34 := rfl
theorem kc_58_34 : ja_code tc_58 34 = js_xv jl_c 4 36 1 37 := rfl
theorem kc_58_37 : ja_code tc_58 37 = js_aload 0 38 := rfl
theorem kc_58_38 : ja_code tc_58 38 = js_get jl_c 6 0 41 := rfl
theorem kc_58_41 : ja_code tc_58 41 = js_xv jl_c 4 37 0 44 := rfl
theorem kc_58_44 : ja_code tc_58 44 = js_iret := rfl
theorem kc_58_45 : ja_code tc_58 45 = js_aload 0 46 := rfl
theorem kc_58_46 : ja_code tc_58 46 = js_get jl_c 6 0 49 := rfl
theorem kc_58_49 : ja_code tc_58 49 = js_ic 40 51 := rfl
theorem kc_58_51 : ja_code tc_58 51 = js_cv jl_c 4 35 1 54 := rfl
theorem kc_58_54 : ja_code tc_58 54 = js_if (fun x => x = 0) 91 57 := rfl
theorem kc_58_57 : ja_code tc_58 57 = js_aload 0 58 := rfl
theorem kc_58_58 : ja_code tc_58 58 = js_iload 1 59 := rfl
theorem kc_58_59 : ja_code tc_58 59 = js_cv jl_c 6 59 1 62 := rfl
theorem kc_58_62 : ja_code tc_58 62 = js_if (fun x => x = 0) 91 65 := rfl
theorem kc_58_65 : ja_code tc_58 65 = js_aload 0 66 := rfl
theorem kc_58_66 : ja_code tc_58 66 = js_get jl_c 6 0 69 := rfl
theorem kc_58_69 : ja_code tc_58 69 = js_xv jl_c 4 37 0 72 := rfl
theorem kc_58_72 : ja_code tc_58 72 = js_pop 73 := rfl
theorem kc_58_73 : ja_code tc_58 73 = js_aload 0 74 := rfl
theorem kc_58_74 : ja_code tc_58 74 = js_iload 1 75 := rfl
theorem kc_58_75 : ja_code tc_58 75 = js_xv jl_c 6 56 1 78 := rfl
theorem kc_58_78 : ja_code tc_58 78 = js_istore 2 79 := rfl
theorem kc_58_79 : ja_code tc_58 79 = js_aload 0 80 := rfl
theorem kc_58_80 : ja_code tc_58 80 = js_get jl_c 6 0 83 := rfl
theorem kc_58_83 : ja_code tc_58 83 = js_ic 41 85 := rfl
theorem kc_58_85 : ja_code tc_58 85 = js_xv jl_c 4 38 1 88 := rfl
theorem kc_58_88 : ja_code tc_58 88 = js_pop 89 := rfl
theorem kc_58_89 : ja_code tc_58 89 = js_iload 2 90 := rfl
theorem kc_58_90 : ja_code tc_58 90 = js_iret := rfl
theorem kc_58_91 : ja_code tc_58 91 = js_aload 0 92 := rfl
theorem kc_58_92 : ja_code tc_58 92 = js_get jl_c 6 0 95 := rfl
theorem kc_58_95 : ja_code tc_58 95 = js_iload 1 96 := rfl
theorem kc_58_96 : ja_code tc_58 96 = js_if (fun x => x = 0) 103 99 := rfl
theorem kc_58_99 : ja_code tc_58 99 = js_ic 1 100 := rfl
theorem kc_58_100 : ja_code tc_58 100 = js_goto 104 := rfl
theorem kc_58_103 : ja_code tc_58 103 = js_ic 0 104 := rfl
theorem kc_58_104 : ja_code tc_58 104 = js_xv jl_c 4 36 1 107 := rfl
theorem kc_58_107 : ja_code tc_58 107 = js_ic (-1) 108 := rfl
theorem kc_58_108 : ja_code tc_58 108 = js_iret := rfl
theorem kc_59_0 : ja_code tc_59 0 = js_iload 1 1 := rfl
theorem kc_59_1 : ja_code tc_59 1 = js_if (fun x => x = 0) 4 6 := rfl
theorem kc_59_4 : ja_code tc_59 4 = js_ic 1 5 := rfl
theorem kc_59_5 : ja_code tc_59 5 = js_zret := rfl
theorem kc_59_6 : ja_code tc_59 6 = js_aload 0 7 := rfl
theorem kc_59_7 : ja_code tc_59 7 = js_get jl_c 6 0 10 := rfl
theorem kc_59_10 : ja_code tc_59 10 = js_cv jl_c 4 34 0 13 := rfl
theorem kc_59_13 : ja_code tc_59 13 = js_sw [(2, 58), (40, 56), (42, 56), (91, 56)] 88 := rfl
theorem kc_59_56 : ja_code tc_59 56 = js_ic 1 57 := rfl
theorem kc_59_57 : ja_code tc_59 57 = js_zret := rfl
theorem kc_59_58 : ja_code tc_59 58 = js_iload 1 59 := rfl
theorem kc_59_59 : ja_code tc_59 59 = js_ic 1 60 := rfl
theorem kc_59_60 : ja_code tc_59 60 = js_ic2 (fun x y => x = y) 63 86 := rfl
theorem kc_59_63 : ja_code tc_59 63 = js_aload 0 64 := rfl
theorem kc_59_64 : ja_code tc_59 64 = js_get jl_c 6 2 67 := rfl
theorem kc_59_67 : ja_code tc_59 67 = js_aload 0 68 := rfl
theorem kc_59_68 : ja_code tc_59 68 = js_get jl_c 6 0 71 := rfl
theorem kc_59_71 : ja_code tc_59 71 = js_get jl_c 4 1 74 := rfl
theorem kc_59_74 : ja_code tc_59 74 = js_ic 1 75 := rfl
theorem kc_59_75 : ja_code tc_59 75 = js_ib (fun x y => x + y) 76 := rfl
theorem kc_59_76 : ja_code tc_59 76 = js_cv jl_c 5 46 1 79 := rfl
theorem kc_59_79 : ja_code tc_59 79 = js_if (fun x => x = 0) 82 86 := rfl
theorem kc_59_82 : ja_code tc_59 82 = js_ic 1 83 := rfl
theorem kc_59_83 : ja_code tc_59 83 = js_goto 87 := rfl
theorem kc_59_86 : ja_code tc_59 86 = js_ic 0 87 := rfl
theorem kc_59_87 : ja_code tc_59 87 = js_zret := rfl
theorem kc_59_88 : ja_code tc_59 88 = js_ic 0 89 := rfl
theorem kc_59_89 : ja_code tc_59 89 = js_zret := rfl
theorem kc_60_0 : ja_code tc_60 0 = js_aload 0 1 := rfl
theorem kc_60_1 : ja_code tc_60 1 = js_get jl_c 6 0 4 := rfl
theorem kc_60_4 : ja_code tc_60 4 = js_ic 91 6 := rfl
theorem kc_60_6 : ja_code tc_60 6 = js_xv jl_c 4 38 1 9 := rfl
theorem kc_60_9 : ja_code tc_60 9 = js_pop 10 := rfl
theorem kc_60_10 : ja_code tc_60 10 = js_aload 0 11 := rfl
theorem kc_60_11 : ja_code tc_60 11 = js_get jl_c 6 3 14 := rfl
theorem kc_60_14 : ja_code tc_60 14 = js_ic 91 16 := rfl
theorem kc_60_16 : ja_code tc_60 16 = js_cv jl_c 2 17 1 19 := rfl
theorem kc_60_19 : ja_code tc_60 19 = js_aload 0 20 := rfl
theorem kc_60_20 : ja_code tc_60 20 = js_get jl_c 6 0 23 := rfl
theorem kc_60_23 : ja_code tc_60 23 = js_ic 3 24 := rfl
theorem kc_60_24 : ja_code tc_60 24 = js_cv jl_c 4 35 1 27 := rfl
theorem kc_60_27 : ja_code tc_60 27 = js_if (fun x => x = 0) 51 30 := rfl
theorem kc_60_30 : ja_code tc_60 30 = js_aload 0 31 := rfl
theorem kc_60_31 : ja_code tc_60 31 = js_get jl_c 6 3 34 := rfl
theorem kc_60_34 : ja_code tc_60 34 = js_aload 0 35 := rfl
theorem kc_60_35 : ja_code tc_60 35 = js_get jl_c 6 1 38 := rfl
theorem kc_60_38 : ja_code tc_60 38 = js_aload 0 39 := rfl
theorem kc_60_39 : ja_code tc_60 39 = js_get jl_c 6 0 42 := rfl
theorem kc_60_42 : ja_code tc_60 42 = js_xv jl_c 4 37 0 45 := rfl
theorem kc_60_45 : ja_code tc_60 45 = js_cv jl_c 3 23 1 48 := rfl
theorem kc_60_48 : ja_code tc_60 48 = js_cv jl_c 2 20 1 51 := rfl
theorem kc_60_51 : ja_code tc_60 51 = js_aload 0 52 := rfl
theorem kc_60_52 : ja_code tc_60 52 = js_get jl_c 6 0 55 := rfl
theorem kc_60_55 : ja_code tc_60 55 = js_ic 93 57 := rfl
theorem kc_60_57 : ja_code tc_60 57 = js_xv jl_c 4 38 1 60 := rfl
theorem kc_60_60 : ja_code tc_60 60 = js_pop 61 := rfl
theorem kc_60_61 : ja_code tc_60 61 = js_aload 0 62 := rfl
theorem kc_60_62 : ja_code tc_60 62 = js_get jl_c 6 3 65 := rfl
theorem kc_60_65 : ja_code tc_60 65 = js_ic 93 67 := rfl
theorem kc_60_67 : ja_code tc_60 67 = js_cv jl_c 2 17 1 70 := rfl
theorem kc_60_70 : ja_code tc_60 70 = js_ret := rfl
theorem kc_61_0 : ja_code tc_61 0 = js_aload 0 1 := rfl
theorem kc_61_1 : ja_code tc_61 1 = js_get jl_c 6 0 4 := rfl
theorem kc_61_4 : ja_code tc_61 4 = js_ic 40 6 := rfl
theorem kc_61_6 : ja_code tc_61 6 = js_xv jl_c 4 38 1 9 := rfl
theorem kc_61_9 : ja_code tc_61 9 = js_pop 10 := rfl
theorem kc_61_10 : ja_code tc_61 10 = js_aload 0 11 := rfl
theorem kc_61_11 : ja_code tc_61 11 = js_get jl_c 6 3 14 := rfl
theorem kc_61_14 : ja_code tc_61 14 = js_ic 40 16 := rfl
theorem kc_61_16 : ja_code tc_61 16 = js_cv jl_c 2 17 1 19 := rfl
theorem kc_61_19 : ja_code tc_61 19 = js_aload 0 20 := rfl
theorem kc_61_20 : ja_code tc_61 20 = js_get jl_c 6 2 23 := rfl
theorem kc_61_23 : ja_code tc_61 23 = js_aload 0 24 := rfl
theorem kc_61_24 : ja_code tc_61 24 = js_get jl_c 6 2 27 := rfl
theorem kc_61_27 : ja_code tc_61 27 = js_cv jl_c 5 42 0 30 := rfl
theorem kc_61_30 : ja_code tc_61 30 = js_cv jl_c 5 43 1 33 := rfl
theorem kc_61_33 : ja_code tc_61 33 = js_aload 0 34 := rfl
theorem kc_61_34 : ja_code tc_61 34 = js_get jl_c 6 0 37 := rfl
theorem kc_61_37 : ja_code tc_61 37 = js_ic 7 39 := rfl
theorem kc_61_39 : ja_code tc_61 39 = js_cv jl_c 4 35 1 42 := rfl
theorem kc_61_42 : ja_code tc_61 42 = js_if (fun x => x = 0) 68 45 := rfl
theorem kc_61_45 : ja_code tc_61 45 = js_aload 0 46 := rfl
theorem kc_61_46 : ja_code tc_61 46 = js_get jl_c 6 0 49 := rfl
theorem kc_61_49 : ja_code tc_61 49 = js_cv jl_c 4 34 0 52 := rfl
theorem kc_61_52 : ja_code tc_61 52 = js_ic 41 54 := rfl
theorem kc_61_54 : ja_code tc_61 54 = js_ic2 (fun x y => x = y) 57 68 := rfl
theorem kc_61_57 : ja_code tc_61 57 = js_aload 0 58 := rfl
theorem kc_61_58 : ja_code tc_61 58 = js_get jl_c 6 0 61 := rfl
theorem kc_61_61 : ja_code tc_61 61 = js_xv jl_c 4 37 0 64 := rfl
theorem kc_61_64 : ja_code tc_61 64 = js_pop 65 := rfl
theorem kc_61_65 : ja_code tc_61 65 = js_goto 134 := rfl
theorem kc_61_68 : ja_code tc_61 68 = js_aload 0 69 := rfl
theorem kc_61_69 : ja_code tc_61 69 = js_get jl_c 6 0 72 := rfl
theorem kc_61_72 : ja_code tc_61 72 = js_ic 41 74 := rfl
theorem kc_61_74 : ja_code tc_61 74 = js_cv jl_c 4 35 1 77 := rfl
theorem kc_61_77 : ja_code tc_61 77 = js_if (fun x => x = 0) 80 134 := rfl
theorem kc_61_80 : ja_code tc_61 80 = js_aload 0 81 := rfl
theorem kc_61_81 : ja_code tc_61 81 = js_ic 1 82 := rfl
theorem kc_61_82 : ja_code tc_61 82 = js_xv jl_c 6 55 1 85 := rfl
theorem kc_61_85 : ja_code tc_61 85 = js_ic 0 86 := rfl
theorem kc_61_86 : ja_code tc_61 86 = js_istore 1 87 := rfl
theorem kc_61_87 : ja_code tc_61 87 = js_iload 1 88 := rfl
theorem kc_61_88 : ja_code tc_61 88 = js_ic 160 91 := rfl
theorem kc_61_91 : ja_code tc_61 91 = js_ic2 (fun x y => y ≤ x) 134 94 := rfl
theorem kc_61_94 : ja_code tc_61 94 = js_aload 0 95 := rfl
theorem kc_61_95 : ja_code tc_61 95 = js_get jl_c 6 0 98 := rfl
theorem kc_61_98 : ja_code tc_61 98 = js_ic 44 100 := rfl
theorem kc_61_100 : ja_code tc_61 100 = js_cv jl_c 4 35 1 103 := rfl
theorem kc_61_103 : ja_code tc_61 103 = js_if (fun x => x = 0) 134 106 := rfl
theorem kc_61_106 : ja_code tc_61 106 = js_aload 0 107 := rfl
theorem kc_61_107 : ja_code tc_61 107 = js_get jl_c 6 0 110 := rfl
theorem kc_61_110 : ja_code tc_61 110 = js_xv jl_c 4 37 0 113 := rfl
theorem kc_61_113 : ja_code tc_61 113 = js_pop 114 := rfl
theorem kc_61_114 : ja_code tc_61 114 = js_aload 0 115 := rfl
theorem kc_61_115 : ja_code tc_61 115 = js_get jl_c 6 3 118 := rfl
theorem kc_61_118 : ja_code tc_61 118 = js_ic 44 120 := rfl
theorem kc_61_120 : ja_code tc_61 120 = js_cv jl_c 2 17 1 123 := rfl
theorem kc_61_123 : ja_code tc_61 123 = js_aload 0 124 := rfl
theorem kc_61_124 : ja_code tc_61 124 = js_ic 1 125 := rfl
theorem kc_61_125 : ja_code tc_61 125 = js_xv jl_c 6 55 1 128 := rfl
theorem kc_61_128 : ja_code tc_61 128 = js_iinc 1 1 131 := rfl
theorem kc_61_131 : ja_code tc_61 131 = js_goto 87 := rfl
theorem kc_61_134 : ja_code tc_61 134 = js_aload 0 135 := rfl
theorem kc_61_135 : ja_code tc_61 135 = js_get jl_c 6 2 138 := rfl
theorem kc_61_138 : ja_code tc_61 138 = js_cv jl_c 5 44 0 141 := rfl
theorem kc_61_141 : ja_code tc_61 141 = js_aload 0 142 := rfl
theorem kc_61_142 : ja_code tc_61 142 = js_get jl_c 6 0 145 := rfl
theorem kc_61_145 : ja_code tc_61 145 = js_ic 41 147 := rfl
theorem kc_61_147 : ja_code tc_61 147 = js_xv jl_c 4 38 1 150 := rfl
theorem kc_61_150 : ja_code tc_61 150 = js_pop 151 := rfl
theorem kc_61_151 : ja_code tc_61 151 = js_aload 0 152 := rfl
theorem kc_61_152 : ja_code tc_61 152 = js_get jl_c 6 3 155 := rfl
theorem kc_61_155 : ja_code tc_61 155 = js_ic 41 157 := rfl
theorem kc_61_157 : ja_code tc_61 157 = js_cv jl_c 2 17 1 160 := rfl
theorem kc_61_160 : ja_code tc_61 160 = js_ret := rfl
theorem kc_62_0 : ja_code tc_62 0 = js_aload 0 1 := rfl
theorem kc_62_1 : ja_code tc_62 1 = js_ic 0 2 := rfl
theorem kc_62_2 : ja_code tc_62 2 = js_put jl_c 7 8 5 := rfl
theorem kc_62_5 : ja_code tc_62 5 = js_ret := rfl
theorem kc_63_0 : ja_code tc_63 0 = js_ic 0 1 := rfl
theorem kc_63_1 : ja_code tc_63 1 = js_istore 1 2 := rfl
theorem kc_63_2 : ja_code tc_63 2 = js_aload 0 3 := rfl
theorem kc_63_3 : ja_code tc_63 3 = js_xv jl_c 7 64 0 6 := rfl
theorem kc_63_6 : ja_code tc_63 6 = js_istore 2 7 := rfl
theorem kc_63_7 : ja_code tc_63 7 = js_ic 0 8 := rfl
theorem kc_63_8 : ja_code tc_63 8 = js_istore 3 9 := rfl
theorem kc_63_9 : ja_code tc_63 9 = js_iload 3 10 := rfl
theorem kc_63_10 : ja_code tc_63 10 = js_ic 160 13 := rfl
theorem kc_63_13 : ja_code tc_63 13 = js_ic2 (fun x y => y ≤ x) 54 16 := rfl
theorem kc_63_16 : ja_code tc_63 16 = js_iload 2 17 := rfl
theorem kc_63_17 : ja_code tc_63 17 = js_if (fun x => x = 0) 54 20 := rfl
theorem kc_63_20 : ja_code tc_63 20 = js_aload 0 21 := rfl
theorem kc_63_21 : ja_code tc_63 21 = js_get jl_c 7 0 24 := rfl
theorem kc_63_24 : ja_code tc_63 24 = js_ic 61 26 := rfl
theorem kc_63_26 : ja_code tc_63 26 = js_cv jl_c 4 35 1 29 := rfl
theorem kc_63_29 : ja_code tc_63 29 = js_if (fun x => x = 0) 54 32 := rfl
theorem kc_63_32 : ja_code tc_63 32 = js_aload 0 33 := rfl
theorem kc_63_33 : ja_code tc_63 33 = js_get jl_c 7 0 36 := rfl
theorem kc_63_36 : ja_code tc_63 36 = js_xv jl_c 4 37 0 39 := rfl
theorem kc_63_39 : ja_code tc_63 39 = js_pop 40 := rfl
theorem kc_63_40 : ja_code tc_63 40 = js_iinc 1 1 43 := rfl
theorem kc_63_43 : ja_code tc_63 43 = js_aload 0 44 := rfl
theorem kc_63_44 : ja_code tc_63 44 = js_xv jl_c 7 64 0 47 := rfl
theorem kc_63_47 : ja_code tc_63 47 = js_istore 2 48 := rfl
theorem kc_63_48 : ja_code tc_63 48 = js_iinc 3 1 51 := rfl
theorem kc_63_51 : ja_code tc_63 51 = js_goto 9 := rfl
theorem kc_63_54 : ja_code tc_63 54 = js_aload 0 55 := rfl
theorem kc_63_55 : ja_code tc_63 55 = js_get jl_c 7 0 58 := rfl
theorem kc_63_58 : ja_code tc_63 58 = js_ic 60 60 := rfl
theorem kc_63_60 : ja_code tc_63 60 = js_cv jl_c 4 35 1 63 := rfl
theorem kc_63_63 : ja_code tc_63 63 = js_if (fun x => x = 0) 88 66 := rfl
theorem kc_63_66 : ja_code tc_63 66 = js_aload 0 67 := rfl
theorem kc_63_67 : ja_code tc_63 67 = js_get jl_c 7 0 70 := rfl
theorem kc_63_70 : ja_code tc_63 70 = js_xv jl_c 4 37 0 73 := rfl
theorem kc_63_73 : ja_code tc_63 73 = js_pop 74 := rfl
theorem kc_63_74 : ja_code tc_63 74 = js_aload 0 75 := rfl
theorem kc_63_75 : ja_code tc_63 75 = js_xv jl_c 7 64 0 78 := rfl
theorem kc_63_78 : ja_code tc_63 78 = js_pop 79 := rfl
theorem kc_63_79 : ja_code tc_63 79 = js_aload 0 80 := rfl
theorem kc_63_80 : ja_code tc_63 80 = js_get jl_c 7 4 83 := rfl
theorem kc_63_83 : ja_code tc_63 83 = js_ic 60 85 := rfl
theorem kc_63_85 : ja_code tc_63 85 = js_cv jl_c 2 17 1 88 := rfl
theorem kc_63_88 : ja_code tc_63 88 = js_aload 0 89 := rfl
theorem kc_63_89 : ja_code tc_63 89 = js_get jl_c 7 4 92 := rfl
theorem kc_63_92 : ja_code tc_63 92 = js_ic 61 94 := rfl
theorem kc_63_94 : ja_code tc_63 94 = js_iload 1 95 := rfl
theorem kc_63_95 : ja_code tc_63 95 = js_cv jl_c 2 18 2 98 := rfl
theorem kc_63_98 : ja_code tc_63 98 = js_ret := rfl
theorem kc_64_0 : ja_code tc_64 0 = js_aload 0 1 := rfl
theorem kc_64_1 : ja_code tc_64 1 = js_xv jl_c 7 65 0 4 := rfl
theorem kc_64_4 : ja_code tc_64 4 = js_istore 1 5 := rfl
theorem kc_64_5 : ja_code tc_64 5 = js_ic 0 6 := rfl
theorem kc_64_6 : ja_code tc_64 6 = js_istore 2 7 := rfl
theorem kc_64_7 : ja_code tc_64 7 = js_iload 2 8 := rfl
theorem kc_64_8 : ja_code tc_64 8 = js_ic 160 11 := rfl
theorem kc_64_11 : ja_code tc_64 11 = js_ic2 (fun x y => y ≤ x) 76 14 := rfl
theorem kc_64_14 : ja_code tc_64 14 = js_aload 0 15 := rfl
theorem kc_64_15 : ja_code tc_64 15 = js_get jl_c 7 0 18 := rfl
theorem kc_64_18 : ja_code tc_64 18 = js_ic 43 20 := rfl
theorem kc_64_20 : ja_code tc_64 20 = js_cv jl_c 4 35 1 23 := rfl
theorem kc_64_23 : ja_code tc_64 23 = js_if (fun x => x = 0) 26 38 := rfl
theorem kc_64_26 : ja_code tc_64 26 = js_aload 0 27 := rfl
theorem kc_64_27 : ja_code tc_64 27 = js_get jl_c 7 0 30 := rfl
theorem kc_64_30 : ja_code tc_64 30 = js_ic 45 32 := rfl
theorem kc_64_32 : ja_code tc_64 32 = js_cv jl_c 4 35 1 35 := rfl
theorem kc_64_35 : ja_code tc_64 35 = js_if (fun x => x = 0) 76 38 := rfl
theorem kc_64_38 : ja_code tc_64 38 = js_aload 0 39 := rfl
theorem kc_64_39 : ja_code tc_64 39 = js_get jl_c 7 0 42 := rfl
theorem kc_64_42 : ja_code tc_64 42 = js_cv jl_c 4 33 0 45 := rfl
theorem kc_64_45 : ja_code tc_64 45 = js_i2c 46 := rfl
theorem kc_64_46 : ja_code tc_64 46 = js_istore 3 47 := rfl
theorem kc_64_47 : ja_code tc_64 47 = js_aload 0 48 := rfl
theorem kc_64_48 : ja_code tc_64 48 = js_get jl_c 7 0 51 := rfl
theorem kc_64_51 : ja_code tc_64 51 = js_xv jl_c 4 37 0 54 := rfl
theorem kc_64_54 : ja_code tc_64 54 = js_pop 55 := rfl
theorem kc_64_55 : ja_code tc_64 55 = js_aload 0 56 := rfl
theorem kc_64_56 : ja_code tc_64 56 = js_xv jl_c 7 65 0 59 := rfl
theorem kc_64_59 : ja_code tc_64 59 = js_pop 60 := rfl
theorem kc_64_60 : ja_code tc_64 60 = js_aload 0 61 := rfl
theorem kc_64_61 : ja_code tc_64 61 = js_get jl_c 7 4 64 := rfl
theorem kc_64_64 : ja_code tc_64 64 = js_iload 3 65 := rfl
theorem kc_64_65 : ja_code tc_64 65 = js_cv jl_c 2 17 1 68 := rfl
theorem kc_64_68 : ja_code tc_64 68 = js_ic 0 69 := rfl
theorem kc_64_69 : ja_code tc_64 69 = js_istore 1 70 := rfl
theorem kc_64_70 : ja_code tc_64 70 = js_iinc 2 1 73 := rfl
theorem kc_64_73 : ja_code tc_64 73 = js_goto 7 := rfl
theorem kc_64_76 : ja_code tc_64 76 = js_iload 1 77 := rfl
theorem kc_64_77 : ja_code tc_64 77 = js_zret := rfl
theorem kc_65_0 : ja_code tc_65 0 = js_aload 0 1 := rfl
theorem kc_65_1 : ja_code tc_65 1 = js_xv jl_c 7 66 0 4 := rfl
theorem kc_65_4 : ja_code tc_65 4 = js_istore 1 5 := rfl
theorem kc_65_5 : ja_code tc_65 5 = js_ic 0 6 := rfl
theorem kc_65_6 : ja_code tc_65 6 = js_istore 2 7 := rfl
theorem kc_65_7 : ja_code tc_65 7 = js_iload 2 8 := rfl
theorem kc_65_8 : ja_code tc_65 8 = js_ic 160 11 := rfl
theorem kc_65_11 : ja_code tc_65 11 = js_ic2 (fun x y => y ≤ x) 76 14 := rfl
theorem kc_65_14 : ja_code tc_65 14 = js_aload 0 15 := rfl
theorem kc_65_15 : ja_code tc_65 15 = js_get jl_c 7 0 18 := rfl
theorem kc_65_18 : ja_code tc_65 18 = js_ic 42 20 := rfl
theorem kc_65_20 : ja_code tc_65 20 = js_cv jl_c 4 35 1 23 := rfl
theorem kc_65_23 : ja_code tc_65 23 = js_if (fun x => x = 0) 26 38 := rfl
theorem kc_65_26 : ja_code tc_65 26 = js_aload 0 27 := rfl
theorem kc_65_27 : ja_code tc_65 27 = js_get jl_c 7 0 30 := rfl
theorem kc_65_30 : ja_code tc_65 30 = js_ic 47 32 := rfl
theorem kc_65_32 : ja_code tc_65 32 = js_cv jl_c 4 35 1 35 := rfl
theorem kc_65_35 : ja_code tc_65 35 = js_if (fun x => x = 0) 76 38 := rfl
theorem kc_65_38 : ja_code tc_65 38 = js_aload 0 39 := rfl
theorem kc_65_39 : ja_code tc_65 39 = js_get jl_c 7 0 42 := rfl
theorem kc_65_42 : ja_code tc_65 42 = js_cv jl_c 4 33 0 45 := rfl
theorem kc_65_45 : ja_code tc_65 45 = js_i2c 46 := rfl
theorem kc_65_46 : ja_code tc_65 46 = js_istore 3 47 := rfl
theorem kc_65_47 : ja_code tc_65 47 = js_aload 0 48 := rfl
theorem kc_65_48 : ja_code tc_65 48 = js_get jl_c 7 0 51 := rfl
theorem kc_65_51 : ja_code tc_65 51 = js_xv jl_c 4 37 0 54 := rfl
theorem kc_65_54 : ja_code tc_65 54 = js_pop 55 := rfl
theorem kc_65_55 : ja_code tc_65 55 = js_aload 0 56 := rfl
theorem kc_65_56 : ja_code tc_65 56 = js_xv jl_c 7 66 0 59 := rfl
theorem kc_65_59 : ja_code tc_65 59 = js_pop 60 := rfl
theorem kc_65_60 : ja_code tc_65 60 = js_aload 0 61 := rfl
theorem kc_65_61 : ja_code tc_65 61 = js_get jl_c 7 4 64 := rfl
theorem kc_65_64 : ja_code tc_65 64 = js_iload 3 65 := rfl
theorem kc_65_65 : ja_code tc_65 65 = js_cv jl_c 2 17 1 68 := rfl
theorem kc_65_68 : ja_code tc_65 68 = js_ic 0 69 := rfl
theorem kc_65_69 : ja_code tc_65 69 = js_istore 1 70 := rfl
theorem kc_65_70 : ja_code tc_65 70 = js_iinc 2 1 73 := rfl
theorem kc_65_73 : ja_code tc_65 73 = js_goto 7 := rfl
theorem kc_65_76 : ja_code tc_65 76 = js_iload 1 77 := rfl
theorem kc_65_77 : ja_code tc_65 77 = js_zret := rfl
theorem kc_66_0 : ja_code tc_66 0 = js_aload 0 1 := rfl
theorem kc_66_1 : ja_code tc_66 1 = js_get jl_c 7 8 4 := rfl
theorem kc_66_4 : ja_code tc_66 4 = js_istore 1 5 := rfl
theorem kc_66_5 : ja_code tc_66 5 = js_ic 0 6 := rfl
theorem kc_66_6 : ja_code tc_66 6 = js_istore 2 7 := rfl
theorem kc_66_7 : ja_code tc_66 7 = js_ic 1 8 := rfl
theorem kc_66_8 : ja_code tc_66 8 = js_istore 3 9 := rfl
theorem kc_66_9 : ja_code tc_66 9 = js_ic 0 10 := rfl
theorem kc_66_10 : ja_code tc_66 10 = js_istore 4 12 := rfl
theorem kc_66_12 : ja_code tc_66 12 = js_iload 4 14 := rfl
theorem kc_66_14 : ja_code tc_66 14 = js_ic 160 17 := rfl
theorem kc_66_17 : ja_code tc_66 17 = js_ic2 (fun x y => y ≤ x) 139 20 := rfl
theorem kc_66_20 : ja_code tc_66 20 = js_iload 3 21 := rfl
theorem kc_66_21 : ja_code tc_66 21 = js_if (fun x => x = 0) 139 24 := rfl
theorem kc_66_24 : ja_code tc_66 24 = js_aload 0 25 := rfl
theorem kc_66_25 : ja_code tc_66 25 = js_cv jl_c 7 67 0 28 := rfl
theorem kc_66_28 : ja_code tc_66 28 = js_if (fun x => x = 0) 139 31 := rfl
theorem kc_66_31 : ja_code tc_66 31 = js_aload 0 32 := rfl
theorem kc_66_32 : ja_code tc_66 32 = js_get jl_c 7 0 35 := rfl
theorem kc_66_35 : ja_code tc_66 35 = js_cv jl_c 4 33 0 38 := rfl
theorem kc_66_38 : ja_code tc_66 38 = js_cs 68 1 41 := rfl
theorem kc_66_41 : ja_code tc_66 41 = js_istore 5 43 := rfl
theorem kc_66_43 : ja_code tc_66 43 = js_iload 5 45 := rfl
theorem kc_66_45 : ja_code tc_66 45 = js_ic 91 47 := rfl
theorem kc_66_47 : ja_code tc_66 47 = js_ic2 (fun x y => x = y) 50 54 := rfl
theorem kc_66_50 : ja_code tc_66 50 = js_iload 2 51 := rfl
theorem kc_66_51 : ja_code tc_66 51 = js_if (fun x => x = 0) 54 58 := rfl
theorem kc_66_54 : ja_code tc_66 54 = js_ic 1 55 := rfl
theorem kc_66_55 : ja_code tc_66 55 = js_goto 59 := rfl
theorem kc_66_58 : ja_code tc_66 58 = js_ic 0 59 := rfl
theorem kc_66_59 : ja_code tc_66 59 = js_istore 3 60 := rfl
theorem kc_66_60 : ja_code tc_66 60 = js_aload 0 61 := rfl
theorem kc_66_61 : ja_code tc_66 61 = js_get jl_c 7 0 64 := rfl
theorem kc_66_64 : ja_code tc_66 64 = js_ic 12 66 := rfl
theorem kc_66_66 : ja_code tc_66 66 = js_cv jl_c 4 35 1 69 := rfl
theorem kc_66_69 : ja_code tc_66 69 = js_istore 2 70 := rfl
theorem kc_66_70 : ja_code tc_66 70 = js_aload 0 71 := rfl
theorem kc_66_71 : ja_code tc_66 71 = js_get jl_c 7 0 74 := rfl
theorem kc_66_74 : ja_code tc_66 74 = js_xv jl_c 4 37 0 77 := rfl
theorem kc_66_77 : ja_code tc_66 77 = js_pop 78 := rfl
theorem kc_66_78 : ja_code tc_66 78 = js_aload 0 79 := rfl
theorem kc_66_79 : ja_code tc_66 79 = js_get jl_c 7 2 82 := rfl
theorem kc_66_82 : ja_code tc_66 82 = js_get jl_c 5 1 85 := rfl
theorem kc_66_85 : ja_code tc_66 85 = js_get jl_c 2 1 88 := rfl
theorem kc_66_88 : ja_code tc_66 88 = js_istore 6 90 := rfl
theorem kc_66_90 : ja_code tc_66 90 = js_iload 5 92 := rfl
theorem kc_66_92 : ja_code tc_66 92 = js_ic 91 94 := rfl
theorem kc_66_94 : ja_code tc_66 94 = js_ic2 (fun x y => x = y) 97 115 := rfl
theorem kc_66_97 : ja_code tc_66 97 = js_aload 0 98 := rfl
theorem kc_66_98 : ja_code tc_66 98 = js_get jl_c 7 3 101 := rfl
theorem kc_66_101 : ja_code tc_66 101 = js_ic 2 102 := rfl
theorem kc_66_102 : ja_code tc_66 102 = js_xv jl_c 6 55 1 105 := rfl
theorem kc_66_105 : ja_code tc_66 105 = js_aload 0 106 := rfl
theorem kc_66_106 : ja_code tc_66 106 = js_get jl_c 7 0 109 := rfl
theorem kc_66_109 : ja_code tc_66 109 = js_ic 41 111 := rfl
theorem kc_66_111 : ja_code tc_66 111 = js_xv jl_c 4 38 1 114 := rfl
theorem kc_66_114 : ja_code tc_66 114 = js_pop 115 := rfl
theorem kc_66_115 : ja_code tc_66 115 = js_aload 0 116 := rfl
theorem kc_66_116 : ja_code tc_66 116 = js_iload 5 118 := rfl
theorem kc_66_118 : ja_code tc_66 118 = js_iload 6 120 := rfl
theorem kc_66_120 : ja_code tc_66 120 = js_aload 0 121 := rfl
theorem kc_66_121 : ja_code tc_66 121 = js_get jl_c 7 2 124 := rfl
theorem kc_66_124 : ja_code tc_66 124 = js_get jl_c 5 1 127 := rfl
theorem kc_66_127 : ja_code tc_66 127 = js_get jl_c 2 1 130 := rfl
theorem kc_66_130 : ja_code tc_66 130 = js_cv jl_c 7 69 3 133 := rfl
theorem kc_66_133 : ja_code tc_66 133 = js_iinc 4 1 136 := rfl
theorem kc_66_136 : ja_code tc_66 136 = js_goto 12 := rfl
theorem kc_66_139 : ja_code tc_66 139 = js_iload 3 140 := rfl
theorem kc_66_140 : ja_code tc_66 140 = js_if (fun x => x = 0) 154 143 := rfl
theorem kc_66_143 : ja_code tc_66 143 = js_aload 0 144 := rfl
theorem kc_66_144 : ja_code tc_66 144 = js_xv jl_c 7 71 0 147 := rfl
theorem kc_66_147 : ja_code tc_66 147 = js_if (fun x => x = 0) 154 150 := rfl
theorem kc_66_150 : ja_code tc_66 150 = js_ic 1 151 := rfl
theorem kc_66_151 : ja_code tc_66 151 = js_goto 155 := rfl
theorem kc_66_154 : ja_code tc_66 154 = js_ic 0 155 := rfl
theorem kc_66_155 : ja_code tc_66 155 = js_istore 4 157 := rfl
theorem kc_66_157 : ja_code tc_66 157 = js_aload 0 158 := rfl
theorem kc_66_158 : ja_code tc_66 158 = js_get jl_c 7 8 161 := rfl
theorem kc_66_161 : ja_code tc_66 161 = js_iload 1 162 := rfl
theorem kc_66_162 : ja_code tc_66 162 = js_ic2 (fun x y => x ≤ y) 183 165 := rfl
theorem kc_66_165 : ja_code tc_66 165 = js_aload 0 166 := rfl
theorem kc_66_166 : ja_code tc_66 166 = js_get jl_c 7 5 169 := rfl
theorem kc_66_169 : ja_code tc_66 169 = js_iload 1 170 := rfl
theorem kc_66_170 : ja_code tc_66 170 = js_ald jl_c 1 171 := rfl
theorem kc_66_171 : ja_code tc_66 171 = js_ic 64 173 := rfl
theorem kc_66_173 : ja_code tc_66 173 = js_ic2 (fun x y => x = y) 176 180 := rfl
theorem kc_66_176 : ja_code tc_66 176 = js_ic 1 177 := rfl
theorem kc_66_177 : ja_code tc_66 177 = js_goto 181 := rfl
theorem kc_66_180 : ja_code tc_66 180 = js_ic 0 181 := rfl
theorem kc_66_181 : ja_code tc_66 181 = js_istore 4 183 := rfl
theorem kc_66_183 : ja_code tc_66 183 = js_aload 0 184 := rfl
theorem kc_66_184 : ja_code tc_66 184 = js_iload 1 185 := rfl
theorem kc_66_185 : ja_code tc_66 185 = js_cv jl_c 7 70 1 188 := rfl
theorem kc_66_188 : ja_code tc_66 188 = js_iload 4 190 := rfl
theorem kc_66_190 : ja_code tc_66 190 = js_zret := rfl
theorem kc_67_0 : ja_code tc_67 0 = js_aload 0 1 := rfl
theorem kc_67_1 : ja_code tc_67 1 = js_get jl_c 7 0 4 := rfl
theorem kc_67_4 : ja_code tc_67 4 = js_cv jl_c 4 33 0 7 := rfl
theorem kc_67_7 : ja_code tc_67 7 = js_sw [(12, 64), (33, 64), (38, 64), (40, 66), (42, 64), (45, 64)] 83 := rfl
theorem kc_67_64 : ja_code tc_67 64 = js_ic 1 65 := rfl
theorem kc_67_65 : ja_code tc_67 65 = js_zret := rfl
theorem kc_67_66 : ja_code tc_67 66 = js_aload 0 67 := rfl
theorem kc_67_67 : ja_code tc_67 67 = js_get jl_c 7 2 70 := rfl
theorem kc_67_70 : ja_code tc_67 70 = js_aload 0 71 := rfl
theorem kc_67_71 : ja_code tc_67 71 = js_get jl_c 7 0 74 := rfl
theorem kc_67_74 : ja_code tc_67 74 = js_get jl_c 4 1 77 := rfl
theorem kc_67_77 : ja_code tc_67 77 = js_ic 1 78 := rfl
theorem kc_67_78 : ja_code tc_67 78 = js_ib (fun x y => x + y) 79 := rfl
theorem kc_67_79 : ja_code tc_67 79 = js_cv jl_c 5 46 1 82 := rfl
theorem kc_67_82 : ja_code tc_67 82 = js_zret := rfl
theorem kc_67_83 : ja_code tc_67 83 = js_ic 0 84 := rfl
theorem kc_67_84 : ja_code tc_67 84 = js_zret := rfl
theorem kc_68_0 : ja_code tc_68 0 = js_iload 0 1 := rfl
theorem kc_68_1 : ja_code tc_68 1 = js_sw [(12, 53), (40, 44), (42, 50), (45, 47)] 56 := rfl
theorem kc_68_44 : ja_code tc_68 44 = js_ic 91 46 := rfl
theorem kc_68_46 : ja_code tc_68 46 = js_cret := rfl
theorem kc_68_47 : ja_code tc_68 47 = js_ic 126 49 := rfl
theorem kc_68_49 : ja_code tc_68 49 = js_cret := rfl
theorem kc_68_50 : ja_code tc_68 50 = js_ic 64 52 := rfl
theorem kc_68_52 : ja_code tc_68 52 = js_cret := rfl
theorem kc_68_53 : ja_code tc_68 53 = js_ic 36 55 := rfl
theorem kc_68_55 : ja_code tc_68 55 = js_cret := rfl
theorem kc_68_56 : ja_code tc_68 56 = js_iload 0 57 := rfl
theorem kc_68_57 : ja_code tc_68 57 = js_i2c 58 := rfl
theorem kc_68_58 : ja_code tc_68 58 = js_cret := rfl
theorem kc_69_0 : ja_code tc_69 0 = js_aload 0 1 := rfl
theorem kc_69_1 : ja_code tc_69 1 = js_get jl_c 7 8 4 := rfl
theorem kc_69_4 : ja_code tc_69 4 = js_ic 160 7 := rfl
theorem kc_69_7 : ja_code tc_69 7 = js_ic2 (fun x y => y ≤ x) 50 10 := rfl
theorem kc_69_10 : ja_code tc_69 10 = js_aload 0 11 := rfl
theorem kc_69_11 : ja_code tc_69 11 = js_get jl_c 7 5 14 := rfl
theorem kc_69_14 : ja_code tc_69 14 = js_aload 0 15 := rfl
theorem kc_69_15 : ja_code tc_69 15 = js_get jl_c 7 8 18 := rfl
theorem kc_69_18 : ja_code tc_69 18 = js_iload 1 19 := rfl
theorem kc_69_19 : ja_code tc_69 19 = js_cst jl_c 20 := rfl
theorem kc_69_20 : ja_code tc_69 20 = js_aload 0 21 := rfl
theorem kc_69_21 : ja_code tc_69 21 = js_get jl_c 7 6 24 := rfl
theorem kc_69_24 : ja_code tc_69 24 = js_aload 0 25 := rfl
theorem kc_69_25 : ja_code tc_69 25 = js_get jl_c 7 8 28 := rfl
theorem kc_69_28 : ja_code tc_69 28 = js_iload 2 29 := rfl
theorem kc_69_29 : ja_code tc_69 29 = js_ast jl_c 30 := rfl
theorem kc_69_30 : ja_code tc_69 30 = js_aload 0 31 := rfl
theorem kc_69_31 : ja_code tc_69 31 = js_get jl_c 7 7 34 := rfl
theorem kc_69_34 : ja_code tc_69 34 = js_aload 0 35 := rfl
theorem kc_69_35 : ja_code tc_69 35 = js_get jl_c 7 8 38 := rfl
theorem kc_69_38 : ja_code tc_69 38 = js_iload 3 39 := rfl
theorem kc_69_39 : ja_code tc_69 39 = js_ast jl_c 40 := rfl
theorem kc_69_40 : ja_code tc_69 40 = js_aload 0 41 := rfl
theorem kc_69_41 : ja_code tc_69 41 = js_dup 42 := rfl
theorem kc_69_42 : ja_code tc_69 42 = js_get jl_c 7 8 45 := rfl
theorem kc_69_45 : ja_code tc_69 45 = js_ic 1 46 := rfl
theorem kc_69_46 : ja_code tc_69 46 = js_ib (fun x y => x + y) 47 := rfl
theorem kc_69_47 : ja_code tc_69 47 = js_put jl_c 7 8 50 := rfl
theorem kc_69_50 : ja_code tc_69 50 = js_ret := rfl
theorem kc_70_0 : ja_code tc_70 0 = js_aload 0 1 := rfl
theorem kc_70_1 : ja_code tc_70 1 = js_get jl_c 7 8 4 := rfl
theorem kc_70_4 : ja_code tc_70 4 = js_ic 1 5 := rfl
theorem kc_70_5 : ja_code tc_70 5 = js_ib (fun x y => x - y) 6 := rfl
theorem kc_70_6 : ja_code tc_70 6 = js_istore 2 7 := rfl
theorem kc_70_7 : ja_code tc_70 7 = js_iload 2 8 := rfl
theorem kc_70_8 : ja_code tc_70 8 = js_iload 1 9 := rfl
theorem kc_70_9 : ja_code tc_70 9 = js_ic2 (fun x y => x < y) 77 12 := rfl
theorem kc_70_12 : ja_code tc_70 12 = js_aload 0 13 := rfl
theorem kc_70_13 : ja_code tc_70 13 = js_get jl_c 7 4 16 := rfl
theorem kc_70_16 : ja_code tc_70 16 = js_aload 0 17 := rfl
theorem kc_70_17 : ja_code tc_70 17 = js_get jl_c 7 5 20 := rfl
theorem kc_70_20 : ja_code tc_70 20 = js_iload 2 21 := rfl
theorem kc_70_21 : ja_code tc_70 21 = js_ald jl_c 1 22 := rfl
theorem kc_70_22 : ja_code tc_70 22 = js_cv jl_c 2 17 1 25 := rfl
theorem kc_70_25 : ja_code tc_70 25 = js_aload 0 26 := rfl
theorem kc_70_26 : ja_code tc_70 26 = js_get jl_c 7 5 29 := rfl
theorem kc_70_29 : ja_code tc_70 29 = js_iload 2 30 := rfl
theorem kc_70_30 : ja_code tc_70 30 = js_ald jl_c 1 31 := rfl
theorem kc_70_31 : ja_code tc_70 31 = js_ic 91 33 := rfl
theorem kc_70_33 : ja_code tc_70 33 = js_ic2 (fun x y => x = y) 36 71 := rfl
theorem kc_70_36 : ja_code tc_70 36 = js_aload 0 37 := rfl
theorem kc_70_37 : ja_code tc_70 37 = js_get jl_c 7 4 40 := rfl
theorem kc_70_40 : ja_code tc_70 40 = js_aload 0 41 := rfl
theorem kc_70_41 : ja_code tc_70 41 = js_get jl_c 7 2 44 := rfl
theorem kc_70_44 : ja_code tc_70 44 = js_get jl_c 5 1 47 := rfl
theorem kc_70_47 : ja_code tc_70 47 = js_aload 0 48 := rfl
theorem kc_70_48 : ja_code tc_70 48 = js_get jl_c 7 6 51 := rfl
theorem kc_70_51 : ja_code tc_70 51 = js_iload 2 52 := rfl
theorem kc_70_52 : ja_code tc_70 52 = js_ald jl_c 0 53 := rfl
theorem kc_70_53 : ja_code tc_70 53 = js_aload 0 54 := rfl
theorem kc_70_54 : ja_code tc_70 54 = js_get jl_c 7 7 57 := rfl
theorem kc_70_57 : ja_code tc_70 57 = js_iload 2 58 := rfl
theorem kc_70_58 : ja_code tc_70 58 = js_ald jl_c 0 59 := rfl
theorem kc_70_59 : ja_code tc_70 59 = js_cv jl_c 2 19 3 62 := rfl
theorem kc_70_62 : ja_code tc_70 62 = js_aload 0 63 := rfl
theorem kc_70_63 : ja_code tc_70 63 = js_get jl_c 7 4 66 := rfl
theorem kc_70_66 : ja_code tc_70 66 = js_ic 93 68 := rfl
theorem kc_70_68 : ja_code tc_70 68 = js_cv jl_c 2 17 1 71 := rfl
theorem kc_70_71 : ja_code tc_70 71 = js_iinc 2 (-1) 74 := rfl
theorem kc_70_74 : ja_code tc_70 74 = js_goto 7 := rfl
theorem kc_70_77 : ja_code tc_70 77 = js_aload 0 78 := rfl
theorem kc_70_78 : ja_code tc_70 78 = js_iload 1 79 := rfl
theorem kc_70_79 : ja_code tc_70 79 = js_put jl_c 7 8 82 := rfl
theorem kc_70_82 : ja_code tc_70 82 = js_ret := rfl
theorem kc_71_0 : ja_code tc_71 0 = js_aload 0 1 := rfl
theorem kc_71_1 : ja_code tc_71 1 = js_xv jl_c 7 74 0 4 := rfl
theorem kc_71_4 : ja_code tc_71 4 = js_istore 1 5 := rfl
theorem kc_71_5 : ja_code tc_71 5 = js_ic 0 6 := rfl
theorem kc_71_6 : ja_code tc_71 6 = js_istore 2 7 := rfl
theorem kc_71_7 : ja_code tc_71 7 = js_iload 2 8 := rfl
theorem kc_71_8 : ja_code tc_71 8 = js_ic 160 11 := rfl
theorem kc_71_11 : ja_code tc_71 11 = js_ic2 (fun x y => y ≤ x) 69 14 := rfl
theorem kc_71_14 : ja_code tc_71 14 = js_aload 0 15 := rfl
theorem kc_71_15 : ja_code tc_71 15 = js_get jl_c 7 0 18 := rfl
theorem kc_71_18 : ja_code tc_71 18 = js_ic 91 20 := rfl
theorem kc_71_20 : ja_code tc_71 20 = js_cv jl_c 4 35 1 23 := rfl
theorem kc_71_23 : ja_code tc_71 23 = js_if (fun x => x = 0) 26 38 := rfl
theorem kc_71_26 : ja_code tc_71 26 = js_aload 0 27 := rfl
theorem kc_71_27 : ja_code tc_71 27 = js_get jl_c 7 0 30 := rfl
theorem kc_71_30 : ja_code tc_71 30 = js_ic 40 32 := rfl
theorem kc_71_32 : ja_code tc_71 32 = js_cv jl_c 4 35 1 35 := rfl
theorem kc_71_35 : ja_code tc_71 35 = js_if (fun x => x = 0) 69 38 := rfl
theorem kc_71_38 : ja_code tc_71 38 = js_aload 0 39 := rfl
theorem kc_71_39 : ja_code tc_71 39 = js_get jl_c 7 0 42 := rfl
theorem kc_71_42 : ja_code tc_71 42 = js_ic 91 44 := rfl
theorem kc_71_44 : ja_code tc_71 44 = js_cv jl_c 4 35 1 47 := rfl
theorem kc_71_47 : ja_code tc_71 47 = js_if (fun x => x = 0) 57 50 := rfl
theorem kc_71_50 : ja_code tc_71 50 = js_aload 0 51 := rfl
theorem kc_71_51 : ja_code tc_71 51 = js_xv jl_c 7 72 0 54 := rfl
theorem kc_71_54 : ja_code tc_71 54 = js_goto 61 := rfl
theorem kc_71_57 : ja_code tc_71 57 = js_aload 0 58 := rfl
theorem kc_71_58 : ja_code tc_71 58 = js_xv jl_c 7 73 0 61 := rfl
theorem kc_71_61 : ja_code tc_71 61 = js_ic 1 62 := rfl
theorem kc_71_62 : ja_code tc_71 62 = js_istore 1 63 := rfl
theorem kc_71_63 : ja_code tc_71 63 = js_iinc 2 1 66 := rfl
theorem kc_71_66 : ja_code tc_71 66 = js_goto 7 := rfl
theorem kc_71_69 : ja_code tc_71 69 = js_iload 1 70 := rfl
theorem kc_71_70 : ja_code tc_71 70 = js_zret := rfl
theorem kc_72_0 : ja_code tc_72 0 = js_aload 0 1 := rfl
theorem kc_72_1 : ja_code tc_72 1 = js_get jl_c 7 0 4 := rfl
theorem kc_72_4 : ja_code tc_72 4 = js_ic 91 6 := rfl
theorem kc_72_6 : ja_code tc_72 6 = js_xv jl_c 4 38 1 9 := rfl
theorem kc_72_9 : ja_code tc_72 9 = js_pop 10 := rfl
theorem kc_72_10 : ja_code tc_72 10 = js_aload 0 11 := rfl
theorem kc_72_11 : ja_code tc_72 11 = js_xv jl_c 7 63 0 14 := rfl
theorem kc_72_14 : ja_code tc_72 14 = js_aload 0 15 := rfl
theorem kc_72_15 : ja_code tc_72 15 = js_get jl_c 7 0 18 := rfl
theorem kc_72_18 : ja_code tc_72 18 = js_ic 93 20 := rfl
theorem kc_72_20 : ja_code tc_72 20 = js_xv jl_c 4 38 1 23 := rfl
theorem kc_72_23 : ja_code tc_72 23 = js_pop 24 := rfl
theorem kc_72_24 : ja_code tc_72 24 = js_aload 0 25 := rfl
theorem kc_72_25 : ja_code tc_72 25 = js_get jl_c 7 4 28 := rfl
theorem kc_72_28 : ja_code tc_72 28 = js_ic 93 30 := rfl
theorem kc_72_30 : ja_code tc_72 30 = js_cv jl_c 2 17 1 33 := rfl
theorem kc_72_33 : ja_code tc_72 33 = js_ret := rfl
theorem kc_73_0 : ja_code tc_73 0 = js_aload 0 1 := rfl
theorem kc_73_1 : ja_code tc_73 1 = js_get jl_c 7 0 4 := rfl
theorem kc_73_4 : ja_code tc_73 4 = js_ic 40 6 := rfl
theorem kc_73_6 : ja_code tc_73 6 = js_xv jl_c 4 38 1 9 := rfl
theorem kc_73_9 : ja_code tc_73 9 = js_pop 10 := rfl
theorem kc_73_10 : ja_code tc_73 10 = js_ic 0 11 := rfl
theorem kc_73_11 : ja_code tc_73 11 = js_istore 1 12 := rfl
theorem kc_73_12 : ja_code tc_73 12 = js_aload 0 13 := rfl
theorem kc_73_13 : ja_code tc_73 13 = js_get jl_c 7 0 16 := rfl
theorem kc_73_16 : ja_code tc_73 16 = js_ic 41 18 := rfl
theorem kc_73_18 : ja_code tc_73 18 = js_cv jl_c 4 35 1 21 := rfl
theorem kc_73_21 : ja_code tc_73 21 = js_if (fun x => x = 0) 24 72 := rfl
theorem kc_73_24 : ja_code tc_73 24 = js_aload 0 25 := rfl
theorem kc_73_25 : ja_code tc_73 25 = js_xv jl_c 7 63 0 28 := rfl
theorem kc_73_28 : ja_code tc_73 28 = js_ic 1 29 := rfl
theorem kc_73_29 : ja_code tc_73 29 = js_istore 1 30 := rfl
theorem kc_73_30 : ja_code tc_73 30 = js_ic 0 31 := rfl
theorem kc_73_31 : ja_code tc_73 31 = js_istore 2 32 := rfl
theorem kc_73_32 : ja_code tc_73 32 = js_iload 2 33 := rfl
theorem kc_73_33 : ja_code tc_73 33 = js_ic 160 36 := rfl
theorem kc_73_36 : ja_code tc_73 36 = js_ic2 (fun x y => y ≤ x) 72 39 := rfl
theorem kc_73_39 : ja_code tc_73 39 = js_aload 0 40 := rfl
theorem kc_73_40 : ja_code tc_73 40 = js_get jl_c 7 0 43 := rfl
theorem kc_73_43 : ja_code tc_73 43 = js_ic 44 45 := rfl
theorem kc_73_45 : ja_code tc_73 45 = js_cv jl_c 4 35 1 48 := rfl
theorem kc_73_48 : ja_code tc_73 48 = js_if (fun x => x = 0) 72 51 := rfl
theorem kc_73_51 : ja_code tc_73 51 = js_aload 0 52 := rfl
theorem kc_73_52 : ja_code tc_73 52 = js_get jl_c 7 0 55 := rfl
theorem kc_73_55 : ja_code tc_73 55 = js_xv jl_c 4 37 0 58 := rfl
theorem kc_73_58 : ja_code tc_73 58 = js_pop 59 := rfl
theorem kc_73_59 : ja_code tc_73 59 = js_aload 0 60 := rfl
theorem kc_73_60 : ja_code tc_73 60 = js_xv jl_c 7 63 0 63 := rfl
theorem kc_73_63 : ja_code tc_73 63 = js_iinc 1 1 66 := rfl
theorem kc_73_66 : ja_code tc_73 66 = js_iinc 2 1 69 := rfl
theorem kc_73_69 : ja_code tc_73 69 = js_goto 32 := rfl
theorem kc_73_72 : ja_code tc_73 72 = js_aload 0 73 := rfl
theorem kc_73_73 : ja_code tc_73 73 = js_get jl_c 7 0 76 := rfl
theorem kc_73_76 : ja_code tc_73 76 = js_ic 41 78 := rfl
theorem kc_73_78 : ja_code tc_73 78 = js_xv jl_c 4 38 1 81 := rfl
theorem kc_73_81 : ja_code tc_73 81 = js_pop 82 := rfl
theorem kc_73_82 : ja_code tc_73 82 = js_aload 0 83 := rfl
theorem kc_73_83 : ja_code tc_73 83 = js_get jl_c 7 4 86 := rfl
theorem kc_73_86 : ja_code tc_73 86 = js_ic 40 88 := rfl
theorem kc_73_88 : ja_code tc_73 88 = js_cv jl_c 2 17 1 91 := rfl
theorem kc_73_91 : ja_code tc_73 91 = js_aload 0 92 := rfl
theorem kc_73_92 : ja_code tc_73 92 = js_get jl_c 7 4 95 := rfl
theorem kc_73_95 : ja_code tc_73 95 = js_iload 1 96 := rfl
theorem kc_73_96 : ja_code tc_73 96 = js_cv jl_c 2 21 1 99 := rfl
theorem kc_73_99 : ja_code tc_73 99 = js_aload 0 100 := rfl
theorem kc_73_100 : ja_code tc_73 100 = js_get jl_c 7 4 103 := rfl
theorem kc_73_103 : ja_code tc_73 103 = js_ic 41 105 := rfl
theorem kc_73_105 : ja_code tc_73 105 = js_cv jl_c 2 17 1 108 := rfl
theorem kc_73_108 : ja_code tc_73 108 = js_ret := rfl
theorem kc_74_0 : ja_code tc_74 0 = js_aload 0 1 := rfl
theorem kc_74_1 : ja_code tc_74 1 = js_get jl_c 7 0 4 := rfl
theorem kc_74_4 : ja_code tc_74 4 = js_cv jl_c 4 33 0 7 := rfl
theorem kc_74_7 : ja_code tc_74 7 = js_sw [(2, 56), (40, 32)] 104 := rfl
theorem kc_74_32 : ja_code tc_74 32 = js_aload 0 33 := rfl
theorem kc_74_33 : ja_code tc_74 33 = js_get jl_c 7 0 36 := rfl
theorem kc_74_36 : ja_code tc_74 36 = js_xv jl_c 4 37 0 39 := rfl
theorem kc_74_39 : ja_code tc_74 39 = js_pop 40 := rfl
theorem kc_74_40 : ja_code tc_74 40 = js_aload 0 41 := rfl
theorem kc_74_41 : ja_code tc_74 41 = js_xv jl_c 7 63 0 44 := rfl
theorem kc_74_44 : ja_code tc_74 44 = js_aload 0 45 := rfl
theorem kc_74_45 : ja_code tc_74 45 = js_get jl_c 7 0 48 := rfl
theorem kc_74_48 : ja_code tc_74 48 = js_ic 41 50 := rfl
theorem kc_74_50 : ja_code tc_74 50 = js_xv jl_c 4 38 1 53 := rfl
theorem kc_74_53 : ja_code tc_74 53 = js_pop 54 := rfl
theorem kc_74_54 : ja_code tc_74 54 = js_ic 0 55 := rfl
theorem kc_74_55 : ja_code tc_74 55 = js_zret := rfl
theorem kc_74_56 : ja_code tc_74 56 = js_aload 0 57 := rfl
theorem kc_74_57 : ja_code tc_74 57 = js_get jl_c 7 0 60 := rfl
theorem kc_74_60 : ja_code tc_74 60 = js_aload 0 61 := rfl
theorem kc_74_61 : ja_code tc_74 61 = js_get jl_c 7 2 64 := rfl
theorem kc_74_64 : ja_code tc_74 64 = js_aload 0 65 := rfl
theorem kc_74_65 : ja_code tc_74 65 = js_get jl_c 7 0 68 := rfl
theorem kc_74_68 : ja_code tc_74 68 = js_get jl_c 4 1 71 := rfl
theorem kc_74_71 : ja_code tc_74 71 = js_cv jl_c 5 47 1 74 := rfl
theorem kc_74_74 : ja_code tc_74 74 = js_xv jl_c 4 36 1 77 := rfl
theorem kc_74_77 : ja_code tc_74 77 = js_aload 0 78 := rfl
theorem kc_74_78 : ja_code tc_74 78 = js_get jl_c 7 2 81 := rfl
theorem kc_74_81 : ja_code tc_74 81 = js_aload 0 82 := rfl
theorem kc_74_82 : ja_code tc_74 82 = js_get jl_c 7 0 85 := rfl
theorem kc_74_85 : ja_code tc_74 85 = js_get jl_c 4 1 88 := rfl
theorem kc_74_88 : ja_code tc_74 88 = js_cv jl_c 5 49 1 91 := rfl
theorem kc_74_91 : ja_code tc_74 91 = js_aload 0 92 := rfl
theorem kc_74_92 : ja_code tc_74 92 = js_aload 0 93 := rfl
theorem kc_74_93 : ja_code tc_74 93 = js_get jl_c 7 0 96 := rfl
theorem kc_74_96 : ja_code tc_74 96 = js_xv jl_c 4 37 0 99 := rfl
theorem kc_74_99 : ja_code tc_74 99 = js_cv jl_c 7 75 1 102 := rfl
theorem kc_74_102 : ja_code tc_74 102 = js_ic 1 103 := rfl
theorem kc_74_103 : ja_code tc_74 103 = js_zret := rfl
theorem kc_74_104 : ja_code tc_74 104 = js_aload 0 105 := rfl
theorem kc_74_105 : ja_code tc_74 105 = js_aload 0 106 := rfl
theorem kc_74_106 : ja_code tc_74 106 = js_get jl_c 7 0 109 := rfl
theorem kc_74_109 : ja_code tc_74 109 = js_ic 3 110 := rfl
theorem kc_74_110 : ja_code tc_74 110 = js_xv jl_c 4 38 1 113 := rfl
theorem kc_74_113 : ja_code tc_74 113 = js_cv jl_c 7 75 1 116 := rfl
theorem kc_74_116 : ja_code tc_74 116 = js_ic 0 117 := rfl
theorem kc_74_117 : ja_code tc_74 117 = js_zret := rfl
theorem kc_75_0 : ja_code tc_75 0 = js_aload 0 1 := rfl
theorem kc_75_1 : ja_code tc_75 1 = js_get jl_c 7 4 4 := rfl
theorem kc_75_4 : ja_code tc_75 4 = js_aload 0 5 := rfl
theorem kc_75_5 : ja_code tc_75 5 = js_get jl_c 7 1 8 := rfl
theorem kc_75_8 : ja_code tc_75 8 = js_iload 1 9 := rfl
theorem kc_75_9 : ja_code tc_75 9 = js_cv jl_c 3 23 1 12 := rfl
theorem kc_75_12 : ja_code tc_75 12 = js_cv jl_c 2 20 1 15 := rfl
theorem kc_75_15 : ja_code tc_75 15 = js_aload 0 16 := rfl
theorem kc_75_16 : ja_code tc_75 16 = js_get jl_c 7 4 19 := rfl
theorem kc_75_19 : ja_code tc_75 19 = js_ic 32 21 := rfl
theorem kc_75_21 : ja_code tc_75 21 = js_cv jl_c 2 17 1 24 := rfl
theorem kc_75_24 : ja_code tc_75 24 = js_ret := rfl
theorem kc_76_0 : ja_code tc_76 0 = js_aload 0 1 := rfl
theorem kc_76_1 : ja_code tc_76 1 = js_cv jl_c 8 77 0 4 := rfl
theorem kc_76_4 : ja_code tc_76 4 = js_aload 0 5 := rfl
theorem kc_76_5 : ja_code tc_76 5 = js_get jl_c 8 0 8 := rfl
theorem kc_76_8 : ja_code tc_76 8 = js_cv jl_c 4 32 0 11 := rfl
theorem kc_76_11 : ja_code tc_76 11 = js_aload 0 12 := rfl
theorem kc_76_12 : ja_code tc_76 12 = js_get jl_c 8 2 15 := rfl
theorem kc_76_15 : ja_code tc_76 15 = js_aload 0 16 := rfl
theorem kc_76_16 : ja_code tc_76 16 = js_get jl_c 8 2 19 := rfl
theorem kc_76_19 : ja_code tc_76 19 = js_cv jl_c 5 42 0 22 := rfl
theorem kc_76_22 : ja_code tc_76 22 = js_cv jl_c 5 43 1 25 := rfl
theorem kc_76_25 : ja_code tc_76 25 = js_ic 0 26 := rfl
theorem kc_76_26 : ja_code tc_76 26 = js_istore 1 27 := rfl
theorem kc_76_27 : ja_code tc_76 27 = js_iload 1 28 := rfl
theorem kc_76_28 : ja_code tc_76 28 = js_ic 160 31 := rfl
theorem kc_76_31 : ja_code tc_76 31 = js_ic2 (fun x y => y ≤ x) 56 34 := rfl
theorem kc_76_34 : ja_code tc_76 34 = js_aload 0 35 := rfl
theorem kc_76_35 : ja_code tc_76 35 = js_get jl_c 8 0 38 := rfl
theorem kc_76_38 : ja_code tc_76 38 = js_ic 0 39 := rfl
theorem kc_76_39 : ja_code tc_76 39 = js_cv jl_c 4 35 1 42 := rfl
theorem kc_76_42 : ja_code tc_76 42 = js_if (fun x => x = 0) 45 56 := rfl
theorem kc_76_45 : ja_code tc_76 45 = js_aload 0 46 := rfl
theorem kc_76_46 : ja_code tc_76 46 = js_ic 1 47 := rfl
theorem kc_76_47 : ja_code tc_76 47 = js_hv jl_c 8 78 1 50 60 1 := rfl
theorem kc_76_50 : ja_code tc_76 50 = js_iinc 1 1 53 := rfl
theorem kc_76_53 : ja_code tc_76 53 = js_goto 27 := rfl
theorem kc_76_56 : ja_code tc_76 56 = js_goto 72 := rfl
theorem kc_76_60 : ja_code tc_76 60 = js_aload 0 61 := rfl
theorem kc_76_61 : ja_code tc_76 61 = js_cv jl_c 8 77 0 64 := rfl
theorem kc_76_64 : ja_code tc_76 64 = js_aload 0 65 := rfl
theorem kc_76_65 : ja_code tc_76 65 = js_get jl_c 8 0 68 := rfl
theorem kc_76_68 : ja_code tc_76 68 = js_get jl_c 4 1 71 := rfl
theorem kc_76_71 : ja_code tc_76 71 = js_iret := rfl
theorem kc_76_72 : ja_code tc_76 72 = js_ic (-1) 73 := rfl
theorem kc_76_73 : ja_code tc_76 73 = js_iret := rfl
theorem kc_77_0 : ja_code tc_77 0 = js_aload 0 1 := rfl
theorem kc_77_1 : ja_code tc_77 1 = js_get jl_c 8 2 4 := rfl
theorem kc_77_4 : ja_code tc_77 4 = js_cv jl_c 5 40 0 7 := rfl
theorem kc_77_7 : ja_code tc_77 7 = js_aload 0 8 := rfl
theorem kc_77_8 : ja_code tc_77 8 = js_get jl_c 8 5 11 := rfl
theorem kc_77_11 : ja_code tc_77 11 = js_cv jl_c 7 62 0 14 := rfl
theorem kc_77_14 : ja_code tc_77 14 = js_aload 0 15 := rfl
theorem kc_77_15 : ja_code tc_77 15 = js_get jl_c 8 3 18 := rfl
theorem kc_77_18 : ja_code tc_77 18 = js_cv jl_c 2 15 0 21 := rfl
theorem kc_77_21 : ja_code tc_77 21 = js_ret := rfl
theorem kc_78_0 : ja_code tc_78 0 = js_aload 0 1 := rfl
theorem kc_78_1 : ja_code tc_78 1 = js_get jl_c 8 0 4 := rfl
theorem kc_78_4 : ja_code tc_78 4 = js_get jl_c 4 1 7 := rfl
theorem kc_78_7 : ja_code tc_78 7 = js_istore 2 8 := rfl
theorem kc_78_8 : ja_code tc_78 8 = js_aload 0 9 := rfl
theorem kc_78_9 : ja_code tc_78 9 = js_xv jl_c 8 79 0 12 := rfl
theorem kc_78_12 : ja_code tc_78 12 = js_istore 3 13 := rfl
theorem kc_78_13 : ja_code tc_78 13 = js_aload 0 14 := rfl
theorem kc_78_14 : ja_code tc_78 14 = js_get jl_c 8 0 17 := rfl
theorem kc_78_17 : ja_code tc_78 17 = js_get jl_c 4 1 20 := rfl
theorem kc_78_20 : ja_code tc_78 20 = js_iload 2 21 := rfl
theorem kc_78_21 : ja_code tc_78 21 = js_ib (fun x y => x - y) 22 := rfl
theorem kc_78_22 : ja_code tc_78 22 = js_ic 2 23 := rfl
theorem kc_78_23 : ja_code tc_78 23 = js_ic2 (fun x y => x = y) 26 30 := rfl
theorem kc_78_26 : ja_code tc_78 26 = js_ic 1 27 := rfl
theorem kc_78_27 : ja_code tc_78 27 = js_goto 31 := rfl
theorem kc_78_30 : ja_code tc_78 30 = js_ic 0 31 := rfl
theorem kc_78_31 : ja_code tc_78 31 = js_istore 4 33 := rfl
theorem kc_78_33 : ja_code tc_78 33 = js_aload 0 34 := rfl
theorem kc_78_34 : ja_code tc_78 34 = js_get jl_c 8 0 37 := rfl
theorem kc_78_37 : ja_code tc_78 37 = js_ic 59 39 := rfl
theorem kc_78_39 : ja_code tc_78 39 = js_cv jl_c 4 35 1 42 := rfl
theorem kc_78_42 : ja_code tc_78 42 = js_if (fun x => x = 0) 45 49 := rfl
theorem kc_78_45 : ja_code tc_78 45 = js_ic 1 46 := rfl
theorem kc_78_46 : ja_code tc_78 46 = js_goto 50 := rfl
theorem kc_78_49 : ja_code tc_78 49 = js_ic 0 50 := rfl
theorem kc_78_50 : ja_code tc_78 50 = js_istore 5 52 := rfl
theorem kc_78_52 : ja_code tc_78 52 = js_ic 0 53 := rfl
theorem kc_78_53 : ja_code tc_78 53 = js_istore 6 55 := rfl
theorem kc_78_55 : ja_code tc_78 55 = js_iload 6 57 := rfl
theorem kc_78_57 : ja_code tc_78 57 = js_ic 160 60 := rfl
theorem kc_78_60 : ja_code tc_78 60 = js_ic2 (fun x y => y ≤ x) 212 63 := rfl
theorem kc_78_63 : ja_code tc_78 63 = js_iload 5 65 := rfl
theorem kc_78_65 : ja_code tc_78 65 = js_if (fun x => x = 0) 212 68 := rfl
theorem kc_78_68 : ja_code tc_78 68 = js_aload 0 69 := rfl
theorem kc_78_69 : ja_code tc_78 69 = js_get jl_c 8 2 72 := rfl
theorem kc_78_72 : ja_code tc_78 72 = js_cv jl_c 5 41 0 75 := rfl
theorem kc_78_75 : ja_code tc_78 75 = js_istore 7 77 := rfl
theorem kc_78_77 : ja_code tc_78 77 = js_aload 0 78 := rfl
theorem kc_78_78 : ja_code tc_78 78 = js_get jl_c 8 4 81 := rfl
theorem kc_78_81 : ja_code tc_78 81 = js_iload 3 82 := rfl
theorem kc_78_82 : ja_code tc_78 82 = js_iload 4 84 := rfl
theorem kc_78_84 : ja_code tc_78 84 = js_xv jl_c 6 54 2 87 := rfl
theorem kc_78_87 : ja_code tc_78 87 = js_istore 8 89 := rfl
theorem kc_78_89 : ja_code tc_78 89 = js_aload 0 90 := rfl
theorem kc_78_90 : ja_code tc_78 90 = js_iload 8 92 := rfl
theorem kc_78_92 : ja_code tc_78 92 = js_cv jl_c 8 80 1 95 := rfl
theorem kc_78_95 : ja_code tc_78 95 = js_iload 1 96 := rfl
theorem kc_78_96 : ja_code tc_78 96 = js_if (fun x => x = 0) 137 99 := rfl
theorem kc_78_99 : ja_code tc_78 99 = js_iload 6 101 := rfl
theorem kc_78_101 : ja_code tc_78 101 = js_if (fun x => x = 0) 104 137 := rfl
theorem kc_78_104 : ja_code tc_78 104 = js_aload 0 105 := rfl
theorem kc_78_105 : ja_code tc_78 105 = js_get jl_c 8 0 108 := rfl
theorem kc_78_108 : ja_code tc_78 108 = js_ic 123 110 := rfl
theorem kc_78_110 : ja_code tc_78 110 = js_cv jl_c 4 35 1 113 := rfl
theorem kc_78_113 : ja_code tc_78 113 = js_if (fun x => x = 0) 137 116 := rfl
theorem kc_78_116 : ja_code tc_78 116 = js_aload 0 117 := rfl
theorem kc_78_117 : ja_code tc_78 117 = js_get jl_c 8 2 120 := rfl
theorem kc_78_120 : ja_code tc_78 120 = js_get jl_c 5 9 123 := rfl
theorem kc_78_123 : ja_code tc_78 123 = js_iload 8 125 := rfl
theorem kc_78_125 : ja_code tc_78 125 = js_ald jl_c 0 126 := rfl
theorem kc_78_126 : ja_code tc_78 126 = js_ic 2 127 := rfl
theorem kc_78_127 : ja_code tc_78 127 = js_ic2 (fun x y => x = y) 130 137 := rfl
theorem kc_78_130 : ja_code tc_78 130 = js_aload 0 131 := rfl
theorem kc_78_131 : ja_code tc_78 131 = js_iload 7 133 := rfl
theorem kc_78_133 : ja_code tc_78 133 = js_xv jl_c 8 81 1 136 := rfl
theorem kc_78_136 : ja_code tc_78 136 = js_ret := rfl
theorem kc_78_137 : ja_code tc_78 137 = js_aload 0 138 := rfl
theorem kc_78_138 : ja_code tc_78 138 = js_get jl_c 8 0 141 := rfl
theorem kc_78_141 : ja_code tc_78 141 = js_ic 61 143 := rfl
theorem kc_78_143 : ja_code tc_78 143 = js_cv jl_c 4 35 1 146 := rfl
theorem kc_78_146 : ja_code tc_78 146 = js_if (fun x => x = 0) 173 149 := rfl
theorem kc_78_149 : ja_code tc_78 149 = js_aload 0 150 := rfl
theorem kc_78_150 : ja_code tc_78 150 = js_get jl_c 8 0 153 := rfl
theorem kc_78_153 : ja_code tc_78 153 = js_xv jl_c 4 37 0 156 := rfl
theorem kc_78_156 : ja_code tc_78 156 = js_pop 157 := rfl
theorem kc_78_157 : ja_code tc_78 157 = js_aload 0 158 := rfl
theorem kc_78_158 : ja_code tc_78 158 = js_get jl_c 8 5 161 := rfl
theorem kc_78_161 : ja_code tc_78 161 = js_xv jl_c 7 63 0 164 := rfl
theorem kc_78_164 : ja_code tc_78 164 = js_aload 0 165 := rfl
theorem kc_78_165 : ja_code tc_78 165 = js_get jl_c 8 3 168 := rfl
theorem kc_78_168 : ja_code tc_78 168 = js_ic 61 170 := rfl
theorem kc_78_170 : ja_code tc_78 170 = js_cv jl_c 2 17 1 173 := rfl
theorem kc_78_173 : ja_code tc_78 173 = js_aload 0 174 := rfl
theorem kc_78_174 : ja_code tc_78 174 = js_get jl_c 8 3 177 := rfl
theorem kc_78_177 : ja_code tc_78 177 = js_ic 59 179 := rfl
theorem kc_78_179 : ja_code tc_78 179 = js_cv jl_c 2 17 1 182 := rfl
theorem kc_78_182 : ja_code tc_78 182 = js_aload 0 183 := rfl
theorem kc_78_183 : ja_code tc_78 183 = js_get jl_c 8 0 186 := rfl
theorem kc_78_186 : ja_code tc_78 186 = js_ic 44 188 := rfl
theorem kc_78_188 : ja_code tc_78 188 = js_cv jl_c 4 35 1 191 := rfl
theorem kc_78_191 : ja_code tc_78 191 = js_istore 5 193 := rfl
theorem kc_78_193 : ja_code tc_78 193 = js_iload 5 195 := rfl
theorem kc_78_195 : ja_code tc_78 195 = js_if (fun x => x = 0) 206 198 := rfl
theorem kc_78_198 : ja_code tc_78 198 = js_aload 0 199 := rfl
theorem kc_78_199 : ja_code tc_78 199 = js_get jl_c 8 0 202 := rfl
theorem kc_78_202 : ja_code tc_78 202 = js_xv jl_c 4 37 0 205 := rfl
theorem kc_78_205 : ja_code tc_78 205 = js_pop 206 := rfl
theorem kc_78_206 : ja_code tc_78 206 = js_iinc 6 1 209 := rfl
theorem kc_78_209 : ja_code tc_78 209 = js_goto 55 := rfl
theorem kc_78_212 : ja_code tc_78 212 = js_aload 0 213 := rfl
theorem kc_78_213 : ja_code tc_78 213 = js_get jl_c 8 0 216 := rfl
theorem kc_78_216 : ja_code tc_78 216 = js_ic 59 218 := rfl
theorem kc_78_218 : ja_code tc_78 218 = js_xv jl_c 4 38 1 221 := rfl
theorem kc_78_221 : ja_code tc_78 221 = js_pop 222 := rfl
theorem kc_78_222 : ja_code tc_78 222 = js_ret := rfl
theorem kc_79_0 : ja_code tc_79 0 = js_aload 0 1 := rfl
theorem kc_79_1 : ja_code tc_79 1 = js_get jl_c 8 0 4 := rfl
theorem kc_79_4 : ja_code tc_79 4 = js_ic 4 5 := rfl
theorem kc_79_5 : ja_code tc_79 5 = js_cv jl_c 4 35 1 8 := rfl
theorem kc_79_8 : ja_code tc_79 8 = js_if (fun x => x = 0) 27 11 := rfl
theorem kc_79_11 : ja_code tc_79 11 = js_aload 0 12 := rfl
theorem kc_79_12 : ja_code tc_79 12 = js_get jl_c 8 0 15 := rfl
theorem kc_79_15 : ja_code tc_79 15 = js_xv jl_c 4 37 0 18 := rfl
theorem kc_79_18 : ja_code tc_79 18 = js_pop 19 := rfl
theorem kc_79_19 : ja_code tc_79 19 = js_aload 0 20 := rfl
theorem kc_79_20 : ja_code tc_79 20 = js_get jl_c 8 4 23 := rfl
theorem kc_79_23 : ja_code tc_79 23 = js_xv jl_c 6 52 0 26 := rfl
theorem kc_79_26 : ja_code tc_79 26 = js_iret := rfl
theorem kc_79_27 : ja_code tc_79 27 = js_aload 0 28 := rfl
theorem kc_79_28 : ja_code tc_79 28 = js_get jl_c 8 4 31 := rfl
theorem kc_79_31 : ja_code tc_79 31 = js_xv jl_c 6 52 0 34 := rfl
theorem kc_79_34 : ja_code tc_79 34 = js_istore 1 35 := rfl
theorem kc_79_35 : ja_code tc_79 35 = js_aload 0 36 := rfl
theorem kc_79_36 : ja_code tc_79 36 = js_get jl_c 8 0 39 := rfl
theorem kc_79_39 : ja_code tc_79 39 = js_ic 4 40 := rfl
theorem kc_79_40 : ja_code tc_79 40 = js_cv jl_c 4 35 1 43 := rfl
theorem kc_79_43 : ja_code tc_79 43 = js_if (fun x => x = 0) 54 46 := rfl
theorem kc_79_46 : ja_code tc_79 46 = js_aload 0 47 := rfl
theorem kc_79_47 : ja_code tc_79 47 = js_get jl_c 8 0 50 := rfl
theorem kc_79_50 : ja_code tc_79 50 = js_xv jl_c 4 37 0 53 := rfl
theorem kc_79_53 : ja_code tc_79 53 = js_pop 54 := rfl
theorem kc_79_54 : ja_code tc_79 54 = js_iload 1 55 := rfl
theorem kc_79_55 : ja_code tc_79 55 = js_iret := rfl
theorem kc_80_0 : ja_code tc_80 0 = js_aload 0 1 := rfl
theorem kc_80_1 : ja_code tc_80 1 = js_get jl_c 8 2 4 := rfl
theorem kc_80_4 : ja_code tc_80 4 = js_get jl_c 5 9 7 := rfl
theorem kc_80_7 : ja_code tc_80 7 = js_iload 1 8 := rfl
theorem kc_80_8 : ja_code tc_80 8 = js_ald jl_c 0 9 := rfl
theorem kc_80_9 : ja_code tc_80 9 = js_ic 1 10 := rfl
theorem kc_80_10 : ja_code tc_80 10 = js_ic2 (fun x y => x = y) 13 22 := rfl
theorem kc_80_13 : ja_code tc_80 13 = js_aload 0 14 := rfl
theorem kc_80_14 : ja_code tc_80 14 = js_get jl_c 8 3 17 := rfl
theorem kc_80_17 : ja_code tc_80 17 = js_ic 35 19 := rfl
theorem kc_80_19 : ja_code tc_80 19 = js_cv jl_c 2 17 1 22 := rfl
theorem kc_80_22 : ja_code tc_80 22 = js_aload 0 23 := rfl
theorem kc_80_23 : ja_code tc_80 23 = js_get jl_c 8 3 26 := rfl
theorem kc_80_26 : ja_code tc_80 26 = js_aload 0 27 := rfl
theorem kc_80_27 : ja_code tc_80 27 = js_get jl_c 8 1 30 := rfl
theorem kc_80_30 : ja_code tc_80 30 = js_aload 0 31 := rfl
theorem kc_80_31 : ja_code tc_80 31 = js_get jl_c 8 2 34 := rfl
theorem kc_80_34 : ja_code tc_80 34 = js_get jl_c 5 5 37 := rfl
theorem kc_80_37 : ja_code tc_80 37 = js_iload 1 38 := rfl
theorem kc_80_38 : ja_code tc_80 38 = js_ald jl_c 0 39 := rfl
theorem kc_80_39 : ja_code tc_80 39 = js_cv jl_c 3 23 1 42 := rfl
theorem kc_80_42 : ja_code tc_80 42 = js_cv jl_c 2 20 1 45 := rfl
theorem kc_80_45 : ja_code tc_80 45 = js_aload 0 46 := rfl
theorem kc_80_46 : ja_code tc_80 46 = js_get jl_c 8 3 49 := rfl
theorem kc_80_49 : ja_code tc_80 49 = js_ic 58 51 := rfl
theorem kc_80_51 : ja_code tc_80 51 = js_cv jl_c 2 17 1 54 := rfl
theorem kc_80_54 : ja_code tc_80 54 = js_aload 0 55 := rfl
theorem kc_80_55 : ja_code tc_80 55 = js_get jl_c 8 3 58 := rfl
theorem kc_80_58 : ja_code tc_80 58 = js_aload 0 59 := rfl
theorem kc_80_59 : ja_code tc_80 59 = js_get jl_c 8 2 62 := rfl
theorem kc_80_62 : ja_code tc_80 62 = js_get jl_c 5 1 65 := rfl
theorem kc_80_65 : ja_code tc_80 65 = js_aload 0 66 := rfl
theorem kc_80_66 : ja_code tc_80 66 = js_get jl_c 8 2 69 := rfl
theorem kc_80_69 : ja_code tc_80 69 = js_get jl_c 5 7 72 := rfl
theorem kc_80_72 : ja_code tc_80 72 = js_iload 1 73 := rfl
theorem kc_80_73 : ja_code tc_80 73 = js_ald jl_c 0 74 := rfl
theorem kc_80_74 : ja_code tc_80 74 = js_aload 0 75 := rfl
theorem kc_80_75 : ja_code tc_80 75 = js_get jl_c 8 2 78 := rfl
theorem kc_80_78 : ja_code tc_80 78 = js_get jl_c 5 8 81 := rfl
theorem kc_80_81 : ja_code tc_80 81 = js_iload 1 82 := rfl
theorem kc_80_82 : ja_code tc_80 82 = js_ald jl_c 0 83 := rfl
theorem kc_80_83 : ja_code tc_80 83 = js_cv jl_c 2 19 3 86 := rfl
theorem kc_80_86 : ja_code tc_80 86 = js_ret := rfl
theorem kc_81_0 : ja_code tc_81 0 = js_aload 0 1 := rfl
theorem kc_81_1 : ja_code tc_81 1 = js_get jl_c 8 0 4 := rfl
theorem kc_81_4 : ja_code tc_81 4 = js_ic 123 6 := rfl
theorem kc_81_6 : ja_code tc_81 6 = js_xv jl_c 4 38 1 9 := rfl
theorem kc_81_9 : ja_code tc_81 9 = js_pop 10 := rfl
theorem kc_81_10 : ja_code tc_81 10 = js_aload 0 11 := rfl
theorem kc_81_11 : ja_code tc_81 11 = js_get jl_c 8 2 14 := rfl
theorem kc_81_14 : ja_code tc_81 14 = js_iload 1 15 := rfl
theorem kc_81_15 : ja_code tc_81 15 = js_cv jl_c 5 43 1 18 := rfl
theorem kc_81_18 : ja_code tc_81 18 = js_aload 0 19 := rfl
theorem kc_81_19 : ja_code tc_81 19 = js_get jl_c 8 3 22 := rfl
theorem kc_81_22 : ja_code tc_81 22 = js_ic 123 24 := rfl
theorem kc_81_24 : ja_code tc_81 24 = js_cv jl_c 2 17 1 27 := rfl
theorem kc_81_27 : ja_code tc_81 27 = js_ic 0 28 := rfl
theorem kc_81_28 : ja_code tc_81 28 = js_istore 2 29 := rfl
theorem kc_81_29 : ja_code tc_81 29 = js_iload 2 30 := rfl
theorem kc_81_30 : ja_code tc_81 30 = js_ic 160 33 := rfl
theorem kc_81_33 : ja_code tc_81 33 = js_ic2 (fun x y => y ≤ x) 94 36 := rfl
theorem kc_81_36 : ja_code tc_81 36 = js_aload 0 37 := rfl
theorem kc_81_37 : ja_code tc_81 37 = js_get jl_c 8 0 40 := rfl
theorem kc_81_40 : ja_code tc_81 40 = js_ic 125 42 := rfl
theorem kc_81_42 : ja_code tc_81 42 = js_cv jl_c 4 35 1 45 := rfl
theorem kc_81_45 : ja_code tc_81 45 = js_if (fun x => x = 0) 48 94 := rfl
theorem kc_81_48 : ja_code tc_81 48 = js_aload 0 49 := rfl
theorem kc_81_49 : ja_code tc_81 49 = js_get jl_c 8 0 52 := rfl
theorem kc_81_52 : ja_code tc_81 52 = js_ic 4 53 := rfl
theorem kc_81_53 : ja_code tc_81 53 = js_cv jl_c 4 35 1 56 := rfl
theorem kc_81_56 : ja_code tc_81 56 = js_if (fun x => x = 0) 59 76 := rfl
theorem kc_81_59 : ja_code tc_81 59 = js_aload 0 60 := rfl
theorem kc_81_60 : ja_code tc_81 60 = js_get jl_c 8 2 63 := rfl
theorem kc_81_63 : ja_code tc_81 63 = js_aload 0 64 := rfl
theorem kc_81_64 : ja_code tc_81 64 = js_get jl_c 8 0 67 := rfl
theorem kc_81_67 : ja_code tc_81 67 = js_get jl_c 4 1 70 := rfl
theorem kc_81_70 : ja_code tc_81 70 = js_cv jl_c 5 46 1 73 := rfl
theorem kc_81_73 : ja_code tc_81 73 = js_if (fun x => x = 0) 84 76 := rfl
theorem kc_81_76 : ja_code tc_81 76 = js_aload 0 77 := rfl
theorem kc_81_77 : ja_code tc_81 77 = js_ic 0 78 := rfl
theorem kc_81_78 : ja_code tc_81 78 = js_xv jl_c 8 78 1 81 := rfl
theorem kc_81_81 : ja_code tc_81 81 = js_goto 88 := rfl
theorem kc_81_84 : ja_code tc_81 84 = js_aload 0 85 := rfl
theorem kc_81_85 : ja_code tc_81 85 = js_xv jl_c 8 82 0 88 := rfl
theorem kc_81_88 : ja_code tc_81 88 = js_iinc 2 1 91 := rfl
theorem kc_81_91 : ja_code tc_81 91 = js_goto 29 := rfl
theorem kc_81_94 : ja_code tc_81 94 = js_aload 0 95 := rfl
theorem kc_81_95 : ja_code tc_81 95 = js_get jl_c 8 0 98 := rfl
theorem kc_81_98 : ja_code tc_81 98 = js_ic 125 100 := rfl
theorem kc_81_100 : ja_code tc_81 100 = js_xv jl_c 4 38 1 103 := rfl
theorem kc_81_103 : ja_code tc_81 103 = js_pop 104 := rfl
theorem kc_81_104 : ja_code tc_81 104 = js_aload 0 105 := rfl
theorem kc_81_105 : ja_code tc_81 105 = js_get jl_c 8 3 108 := rfl
theorem kc_81_108 : ja_code tc_81 108 = js_ic 125 110 := rfl
theorem kc_81_110 : ja_code tc_81 110 = js_cv jl_c 2 17 1 113 := rfl
theorem kc_81_113 : ja_code tc_81 113 = js_aload 0 114 := rfl
theorem kc_81_114 : ja_code tc_81 114 = js_get jl_c 8 2 117 := rfl
theorem kc_81_117 : ja_code tc_81 117 = js_cv jl_c 5 44 0 120 := rfl
theorem kc_81_120 : ja_code tc_81 120 = js_ret := rfl
theorem kc_82_0 : ja_code tc_82 0 = js_aload 0 1 := rfl
theorem kc_82_1 : ja_code tc_82 1 = js_get jl_c 8 0 4 := rfl
theorem kc_82_4 : ja_code tc_82 4 = js_cv jl_c 4 33 0 7 := rfl
theorem kc_82_7 : ja_code tc_82 7 = js_sw [(8, 79), (10, 86), (11, 103), (59, 70), (123, 56)] 139 := rfl
theorem kc_82_56 : ja_code tc_82 56 = js_aload 0 57 := rfl
theorem kc_82_57 : ja_code tc_82 57 = js_aload 0 58 := rfl
theorem kc_82_58 : ja_code tc_82 58 = js_get jl_c 8 2 61 := rfl
theorem kc_82_61 : ja_code tc_82 61 = js_cv jl_c 5 42 0 64 := rfl
theorem kc_82_64 : ja_code tc_82 64 = js_xv jl_c 8 81 1 67 := rfl
theorem kc_82_67 : ja_code tc_82 67 = js_goto 152 := rfl
theorem kc_82_70 : ja_code tc_82 70 = js_aload 0 71 := rfl
theorem kc_82_71 : ja_code tc_82 71 = js_ic 59 73 := rfl
theorem kc_82_73 : ja_code tc_82 73 = js_xv jl_c 8 83 1 76 := rfl
theorem kc_82_76 : ja_code tc_82 76 = js_goto 152 := rfl
theorem kc_82_79 : ja_code tc_82 79 = js_aload 0 80 := rfl
theorem kc_82_80 : ja_code tc_82 80 = js_xv jl_c 8 84 0 83 := rfl
theorem kc_82_83 : ja_code tc_82 83 = js_goto 152 := rfl
theorem kc_82_86 : ja_code tc_82 86 = js_aload 0 87 := rfl
theorem kc_82_87 : ja_code tc_82 87 = js_get jl_c 8 0 90 := rfl
theorem kc_82_90 : ja_code tc_82 90 = js_xv jl_c 4 37 0 93 := rfl
theorem kc_82_93 : ja_code tc_82 93 = js_pop 94 := rfl
theorem kc_82_94 : ja_code tc_82 94 = js_aload 0 95 := rfl
theorem kc_82_95 : ja_code tc_82 95 = js_ic 37 97 := rfl
theorem kc_82_97 : ja_code tc_82 97 = js_xv jl_c 8 85 1 100 := rfl
theorem kc_82_100 : ja_code tc_82 100 = js_goto 152 := rfl
theorem kc_82_103 : ja_code tc_82 103 = js_aload 0 104 := rfl
theorem kc_82_104 : ja_code tc_82 104 = js_get jl_c 8 0 107 := rfl
theorem kc_82_107 : ja_code tc_82 107 = js_xv jl_c 4 37 0 110 := rfl
theorem kc_82_110 : ja_code tc_82 110 = js_pop 111 := rfl
theorem kc_82_111 : ja_code tc_82 111 = js_aload 0 112 := rfl
theorem kc_82_112 : ja_code tc_82 112 = js_get jl_c 8 0 115 := rfl
theorem kc_82_115 : ja_code tc_82 115 = js_ic 59 117 := rfl
theorem kc_82_117 : ja_code tc_82 117 = js_cv jl_c 4 35 1 120 := rfl
theorem kc_82_120 : ja_code tc_82 120 = js_if (fun x => x = 0) 123 130 := rfl
theorem kc_82_123 : ja_code tc_82 123 = js_aload 0 124 := rfl
theorem kc_82_124 : ja_code tc_82 124 = js_get jl_c 8 5 127 := rfl
theorem kc_82_127 : ja_code tc_82 127 = js_xv jl_c 7 63 0 130 := rfl
theorem kc_82_130 : ja_code tc_82 130 = js_aload 0 131 := rfl
theorem kc_82_131 : ja_code tc_82 131 = js_ic 94 133 := rfl
theorem kc_82_133 : ja_code tc_82 133 = js_xv jl_c 8 83 1 136 := rfl
theorem kc_82_136 : ja_code tc_82 136 = js_goto 152 := rfl
theorem kc_82_139 : ja_code tc_82 139 = js_aload 0 140 := rfl
theorem kc_82_140 : ja_code tc_82 140 = js_get jl_c 8 5 143 := rfl
theorem kc_82_143 : ja_code tc_82 143 = js_xv jl_c 7 63 0 146 := rfl
theorem kc_82_146 : ja_code tc_82 146 = js_aload 0 147 := rfl
theorem kc_82_147 : ja_code tc_82 147 = js_ic 59 149 := rfl
theorem kc_82_149 : ja_code tc_82 149 = js_xv jl_c 8 83 1 152 := rfl
theorem kc_82_152 : ja_code tc_82 152 = js_ret := rfl
theorem kc_83_0 : ja_code tc_83 0 = js_aload 0 1 := rfl
theorem kc_83_1 : ja_code tc_83 1 = js_get jl_c 8 0 4 := rfl
theorem kc_83_4 : ja_code tc_83 4 = js_ic 59 6 := rfl
theorem kc_83_6 : ja_code tc_83 6 = js_xv jl_c 4 38 1 9 := rfl
theorem kc_83_9 : ja_code tc_83 9 = js_pop 10 := rfl
theorem kc_83_10 : ja_code tc_83 10 = js_aload 0 11 := rfl
theorem kc_83_11 : ja_code tc_83 11 = js_get jl_c 8 3 14 := rfl
theorem kc_83_14 : ja_code tc_83 14 = js_iload 1 15 := rfl
theorem kc_83_15 : ja_code tc_83 15 = js_cv jl_c 2 17 1 18 := rfl
theorem kc_83_18 : ja_code tc_83 18 = js_ret := rfl
theorem kc_84_0 : ja_code tc_84 0 = js_aload 0 1 := rfl
theorem kc_84_1 : ja_code tc_84 1 = js_get jl_c 8 0 4 := rfl
theorem kc_84_4 : ja_code tc_84 4 = js_ic 8 6 := rfl
theorem kc_84_6 : ja_code tc_84 6 = js_xv jl_c 4 38 1 9 := rfl
theorem kc_84_9 : ja_code tc_84 9 = js_pop 10 := rfl
theorem kc_84_10 : ja_code tc_84 10 = js_aload 0 11 := rfl
theorem kc_84_11 : ja_code tc_84 11 = js_ic 63 13 := rfl
theorem kc_84_13 : ja_code tc_84 13 = js_xv jl_c 8 85 1 16 := rfl
theorem kc_84_16 : ja_code tc_84 16 = js_aload 0 17 := rfl
theorem kc_84_17 : ja_code tc_84 17 = js_get jl_c 8 0 20 := rfl
theorem kc_84_20 : ja_code tc_84 20 = js_ic 9 22 := rfl
theorem kc_84_22 : ja_code tc_84 22 = js_cv jl_c 4 35 1 25 := rfl
theorem kc_84_25 : ja_code tc_84 25 = js_if (fun x => x = 0) 56 28 := rfl
theorem kc_84_28 : ja_code tc_84 28 = js_aload 0 29 := rfl
theorem kc_84_29 : ja_code tc_84 29 = js_get jl_c 8 0 32 := rfl
theorem kc_84_32 : ja_code tc_84 32 = js_xv jl_c 4 37 0 35 := rfl
theorem kc_84_35 : ja_code tc_84 35 = js_pop 36 := rfl
theorem kc_84_36 : ja_code tc_84 36 = js_aload 0 37 := rfl
theorem kc_84_37 : ja_code tc_84 37 = js_get jl_c 8 3 40 := rfl
theorem kc_84_40 : ja_code tc_84 40 = js_ic 58 42 := rfl
theorem kc_84_42 : ja_code tc_84 42 = js_cv jl_c 2 17 1 45 := rfl
theorem kc_84_45 : ja_code tc_84 45 = js_aload 0 46 := rfl
theorem kc_84_46 : ja_code tc_84 46 = js_xv jl_c 8 82 0 49 := rfl
theorem kc_84_49 : ja_code tc_84 49 = js_aload 0 50 := rfl
theorem kc_84_50 : ja_code tc_84 50 = js_get jl_c 8 0 53 := rfl
theorem kc_84_53 : ja_code tc_84 53 = js_cv jl_c 4 39 0 56 := rfl
theorem kc_84_56 : ja_code tc_84 56 = js_ret := rfl
theorem kc_85_0 : ja_code tc_85 0 = js_aload 0 1 := rfl
theorem kc_85_1 : ja_code tc_85 1 = js_get jl_c 8 0 4 := rfl
theorem kc_85_4 : ja_code tc_85 4 = js_ic 40 6 := rfl
theorem kc_85_6 : ja_code tc_85 6 = js_xv jl_c 4 38 1 9 := rfl
theorem kc_85_9 : ja_code tc_85 9 = js_pop 10 := rfl
theorem kc_85_10 : ja_code tc_85 10 = js_aload 0 11 := rfl
theorem kc_85_11 : ja_code tc_85 11 = js_get jl_c 8 5 14 := rfl
theorem kc_85_14 : ja_code tc_85 14 = js_xv jl_c 7 63 0 17 := rfl
theorem kc_85_17 : ja_code tc_85 17 = js_aload 0 18 := rfl
theorem kc_85_18 : ja_code tc_85 18 = js_get jl_c 8 0 21 := rfl
theorem kc_85_21 : ja_code tc_85 21 = js_ic 41 23 := rfl
theorem kc_85_23 : ja_code tc_85 23 = js_xv jl_c 4 38 1 26 := rfl
theorem kc_85_26 : ja_code tc_85 26 = js_pop 27 := rfl
theorem kc_85_27 : ja_code tc_85 27 = js_aload 0 28 := rfl
theorem kc_85_28 : ja_code tc_85 28 = js_get jl_c 8 3 31 := rfl
theorem kc_85_31 : ja_code tc_85 31 = js_iload 1 32 := rfl
theorem kc_85_32 : ja_code tc_85 32 = js_cv jl_c 2 17 1 35 := rfl
theorem kc_85_35 : ja_code tc_85 35 = js_aload 0 36 := rfl
theorem kc_85_36 : ja_code tc_85 36 = js_xv jl_c 8 82 0 39 := rfl
theorem kc_85_39 : ja_code tc_85 39 = js_aload 0 40 := rfl
theorem kc_85_40 : ja_code tc_85 40 = js_get jl_c 8 0 43 := rfl
theorem kc_85_43 : ja_code tc_85 43 = js_cv jl_c 4 39 0 46 := rfl
theorem kc_85_46 : ja_code tc_85 46 = js_ret := rfl
theorem kc_86_0 : ja_code tc_86 0 = js_lc 0 1 := rfl
theorem kc_86_1 : ja_code tc_86 1 = js_lstore 1 2 := rfl
theorem kc_86_2 : ja_code tc_86 2 = js_ic 0 3 := rfl
theorem kc_86_3 : ja_code tc_86 3 = js_istore 3 4 := rfl
theorem kc_86_4 : ja_code tc_86 4 = js_iload 3 5 := rfl
theorem kc_86_5 : ja_code tc_86 5 = js_aload 0 6 := rfl
theorem kc_86_6 : ja_code tc_86 6 = js_ck 90 0 9 := rfl
theorem kc_86_9 : ja_code tc_86 9 = js_ic2 (fun x y => y ≤ x) 32 12 := rfl
theorem kc_86_12 : ja_code tc_86 12 = js_lload 1 13 := rfl
theorem kc_86_13 : ja_code tc_86 13 = js_aload 0 14 := rfl
theorem kc_86_14 : ja_code tc_86 14 = js_iload 3 15 := rfl
theorem kc_86_15 : ja_code tc_86 15 = js_ck 92 1 18 := rfl
theorem kc_86_18 : ja_code tc_86 18 = js_i2l 19 := rfl
theorem kc_86_19 : ja_code tc_86 19 = js_ic 8 21 := rfl
theorem kc_86_21 : ja_code tc_86 21 = js_iload 3 22 := rfl
theorem kc_86_22 : ja_code tc_86 22 = js_ib (fun x y => x * y) 23 := rfl
theorem kc_86_23 : ja_code tc_86 23 = js_ls (fun x y => x <<< (y.toInt64 &&& 63)) 24 := rfl
theorem kc_86_24 : ja_code tc_86 24 = js_lb (fun x y => x ||| y) 25 := rfl
theorem kc_86_25 : ja_code tc_86 25 = js_lstore 1 26 := rfl
theorem kc_86_26 : ja_code tc_86 26 = js_iinc 3 1 29 := rfl
theorem kc_86_29 : ja_code tc_86 29 = js_goto 4 := rfl
theorem kc_86_32 : ja_code tc_86 32 = js_lload 1 33 := rfl
theorem kc_86_33 : ja_code tc_86 33 = js_lret := rfl
theorem kc_87_0 : ja_code tc_87 0 = js_aload 0 1 := rfl
theorem kc_87_1 : ja_code tc_87 1 = js_iload 1 2 := rfl
theorem kc_87_2 : ja_code tc_87 2 = js_ic 0 3 := rfl
theorem kc_87_3 : ja_code tc_87 3 = js_ck 88 2 6 := rfl
theorem kc_87_6 : ja_code tc_87 6 = js_iret := rfl
theorem kc_88_0 : ja_code tc_88 0 = js_aload 0 1 := rfl
theorem kc_88_1 : ja_code tc_88 1 = js_ck 89 0 4 := rfl
theorem kc_88_4 : ja_code tc_88 4 = js_if (fun x => x = 0) 23 7 := rfl
theorem kc_88_7 : ja_code tc_88 7 = js_aload 0 8 := rfl
theorem kc_88_8 : ja_code tc_88 8 = js_gva 11 := rfl
theorem kc_88_11 : ja_code tc_88 11 = js_iload 1 12 := rfl
theorem kc_88_12 : ja_code tc_88 12 = js_iload 2 13 := rfl
theorem kc_88_13 : ja_code tc_88 13 = js_aload 0 14 := rfl
theorem kc_88_14 : ja_code tc_88 14 = js_ck 90 0 17 := rfl
theorem kc_88_17 : ja_code tc_88 17 = js_cs 94 4 20 := rfl
theorem kc_88_20 : ja_code tc_88 20 = js_goto 36 := rfl
theorem kc_88_36 : ja_code tc_88 36 = js_iret := rfl
theorem kc_89_0 : ja_code tc_89 0 = js_sco 3 := rfl
theorem kc_89_3 : ja_code tc_89 3 = js_if (fun x => x = 0) 17 6 := rfl
theorem kc_89_6 : ja_code tc_89 6 = js_aload 0 7 := rfl
theorem kc_89_7 : ja_code tc_89 7 = js_gco 10 := rfl
theorem kc_89_10 : ja_code tc_89 10 = js_if (fun x => x = 0) 13 17 := rfl
theorem kc_89_13 : ja_code tc_89 13 = js_ic 1 14 := rfl
theorem kc_89_14 : ja_code tc_89 14 = js_goto 18 := rfl
theorem kc_89_17 : ja_code tc_89 17 = js_ic 0 18 := rfl
theorem kc_89_18 : ja_code tc_89 18 = js_zret := rfl
theorem kc_90_0 : ja_code tc_90 0 = js_aload 0 1 := rfl
theorem kc_90_1 : ja_code tc_90 1 = js_gva 4 := rfl
theorem kc_90_4 : ja_code tc_90 4 = js_alk 5 := rfl
theorem kc_90_5 : ja_code tc_90 5 = js_aload 0 6 := rfl
theorem kc_90_6 : ja_code tc_90 6 = js_ck 91 0 9 := rfl
theorem kc_90_9 : ja_code tc_90 9 = js_ib (fun x y => x >>> (y &&& 31)) 10 := rfl
theorem kc_90_10 : ja_code tc_90 10 = js_iret := rfl
theorem kc_91_0 : ja_code tc_91 0 = js_sco 3 := rfl
theorem kc_91_3 : ja_code tc_91 3 = js_if (fun x => x = 0) 13 6 := rfl
theorem kc_91_6 : ja_code tc_91 6 = js_aload 0 7 := rfl
theorem kc_91_7 : ja_code tc_91 7 = js_gco 10 := rfl
theorem kc_91_10 : ja_code tc_91 10 = js_goto 14 := rfl
theorem kc_91_13 : ja_code tc_91 13 = js_ic 1 14 := rfl
theorem kc_91_14 : ja_code tc_91 14 = js_bret := rfl
theorem kc_92_0 : ja_code tc_92 0 = js_aload 0 1 := rfl
theorem kc_92_1 : ja_code tc_92 1 = js_ck 89 0 4 := rfl
theorem kc_92_4 : ja_code tc_92 4 = js_if (fun x => x = 0) 16 7 := rfl
theorem kc_92_7 : ja_code tc_92 7 = js_aload 0 8 := rfl
theorem kc_92_8 : ja_code tc_92 8 = js_gva 11 := rfl
theorem kc_92_11 : ja_code tc_92 11 = js_iload 1 12 := rfl
theorem kc_92_12 : ja_code tc_92 12 = js_cs 97 2 15 := rfl
theorem kc_92_15 : ja_code tc_92 15 = js_cret := rfl
theorem kc_93_0 : ja_code tc_93 0 = js_iload 0 1 := rfl
theorem kc_93_1 : ja_code tc_93 1 = js_iload 1 2 := rfl
theorem kc_93_2 : ja_code tc_93 2 = js_sfm 5 := rfl
theorem kc_93_5 : ja_code tc_93 5 = js_cs 99 3 8 := rfl
theorem kc_93_8 : ja_code tc_93 8 = js_pop 9 := rfl
theorem kc_93_9 : ja_code tc_93 9 = js_ret := rfl
theorem kc_94_0 : ja_code tc_94 0 = js_iload 1 1 := rfl
theorem kc_94_1 : ja_code tc_94 1 = js_cs 95 1 4 := rfl
theorem kc_94_4 : ja_code tc_94 4 = js_if (fun x => x = 0) 7 9 := rfl
theorem kc_94_7 : ja_code tc_94 7 = js_ic (-1) 8 := rfl
theorem kc_94_8 : ja_code tc_94 8 = js_iret := rfl
theorem kc_94_9 : ja_code tc_94 9 = js_iload 2 10 := rfl
theorem kc_94_10 : ja_code tc_94 10 = js_ic 0 11 := rfl
theorem kc_94_11 : ja_code tc_94 11 = js_max 14 := rfl
theorem kc_94_14 : ja_code tc_94 14 = js_istore 2 15 := rfl
theorem kc_94_15 : ja_code tc_94 15 = js_iload 3 16 := rfl
theorem kc_94_16 : ja_code tc_94 16 = js_aload 0 17 := rfl
theorem kc_94_17 : ja_code tc_94 17 = js_alk 18 := rfl
theorem kc_94_18 : ja_code tc_94 18 = js_min 21 := rfl
theorem kc_94_21 : ja_code tc_94 21 = js_istore 3 22 := rfl
theorem kc_94_22 : ja_code tc_94 22 = js_iload 2 23 := rfl
theorem kc_94_23 : ja_code tc_94 23 = js_iload 3 24 := rfl
theorem kc_94_24 : ja_code tc_94 24 = js_ic2 (fun x y => x < y) 29 27 := rfl
theorem kc_94_27 : ja_code tc_94 27 = js_ic (-1) 28 := rfl
theorem kc_94_28 : ja_code tc_94 28 = js_iret := rfl
theorem kc_94_29 : ja_code tc_94 29 = js_aload 0 30 := rfl
theorem kc_94_30 : ja_code tc_94 30 = js_iload 1 31 := rfl
theorem kc_94_31 : ja_code tc_94 31 = js_iload 2 32 := rfl
theorem kc_94_32 : ja_code tc_94 32 = js_iload 3 33 := rfl
theorem kc_94_33 : ja_code tc_94 33 = js_cs 96 4 36 := rfl
theorem kc_94_36 : ja_code tc_94 36 = js_iret := rfl
theorem kc_95_0 : ja_code tc_95 0 = js_iload 0 1 := rfl
theorem kc_95_1 : ja_code tc_95 1 = js_if (fun x => x < 0) 15 4 := rfl
theorem kc_95_4 : ja_code tc_95 4 = js_iload 0 5 := rfl
theorem kc_95_5 : ja_code tc_95 5 = js_ic 255 8 := rfl
theorem kc_95_8 : ja_code tc_95 8 = js_ic2 (fun x y => y < x) 15 11 := rfl
theorem kc_95_11 : ja_code tc_95 11 = js_ic 1 12 := rfl
theorem kc_95_12 : ja_code tc_95 12 = js_goto 16 := rfl
theorem kc_95_15 : ja_code tc_95 15 = js_ic 0 16 := rfl
theorem kc_95_16 : ja_code tc_95 16 = js_zret := rfl
theorem kc_96_0 : ja_code tc_96 0 = js_iload 1 1 := rfl
theorem kc_96_1 : ja_code tc_96 1 = js_i2b 2 := rfl
theorem kc_96_2 : ja_code tc_96 2 = js_istore 4 4 := rfl
theorem kc_96_4 : ja_code tc_96 4 = js_iload 2 5 := rfl
theorem kc_96_5 : ja_code tc_96 5 = js_istore 5 7 := rfl
theorem kc_96_7 : ja_code tc_96 7 = js_iload 5 9 := rfl
theorem kc_96_9 : ja_code tc_96 9 = js_iload 3 10 := rfl
theorem kc_96_10 : ja_code tc_96 10 = js_ic2 (fun x y => y ≤ x) 31 13 := rfl
theorem kc_96_13 : ja_code tc_96 13 = js_aload 0 14 := rfl
theorem kc_96_14 : ja_code tc_96 14 = js_iload 5 16 := rfl
theorem kc_96_16 : ja_code tc_96 16 = js_bal 17 := rfl
theorem kc_96_17 : ja_code tc_96 17 = js_iload 4 19 := rfl
theorem kc_96_19 : ja_code tc_96 19 = js_ic2 (fun x y => x = y) 22 25 := rfl
theorem kc_96_22 : ja_code tc_96 22 = js_iload 5 24 := rfl
theorem kc_96_24 : ja_code tc_96 24 = js_iret := rfl
theorem kc_96_25 : ja_code tc_96 25 = js_iinc 5 1 28 := rfl
theorem kc_96_28 : ja_code tc_96 28 = js_goto 7 := rfl
theorem kc_96_31 : ja_code tc_96 31 = js_ic (-1) 32 := rfl
theorem kc_96_32 : ja_code tc_96 32 = js_iret := rfl
theorem kc_97_0 : ja_code tc_97 0 = js_iload 1 1 := rfl
theorem kc_97_1 : ja_code tc_97 1 = js_aload 0 2 := rfl
theorem kc_97_2 : ja_code tc_97 2 = js_alk 3 := rfl
theorem kc_97_3 : ja_code tc_97 3 = js_cs 93 2 6 := rfl
theorem kc_97_6 : ja_code tc_97 6 = js_aload 0 7 := rfl
theorem kc_97_7 : ja_code tc_97 7 = js_iload 1 8 := rfl
theorem kc_97_8 : ja_code tc_97 8 = js_bal 9 := rfl
theorem kc_97_9 : ja_code tc_97 9 = js_ic 255 12 := rfl
theorem kc_97_12 : ja_code tc_97 12 = js_ib (fun x y => x &&& y) 13 := rfl
theorem kc_97_13 : ja_code tc_97 13 = js_i2c 14 := rfl
theorem kc_97_14 : ja_code tc_97 14 = js_cret := rfl
theorem kc_98_0 : ja_code tc_98 0 = js_iload 0 1 := rfl
theorem kc_98_1 : ja_code tc_98 1 = js_iload 1 2 := rfl
theorem kc_98_2 : ja_code tc_98 2 = js_ic2 (fun x y => x < y) 9 5 := rfl
theorem kc_98_5 : ja_code tc_98 5 = js_iload 0 6 := rfl
theorem kc_98_6 : ja_code tc_98 6 = js_goto 10 := rfl
theorem kc_98_9 : ja_code tc_98 9 = js_iload 1 10 := rfl
theorem kc_98_10 : ja_code tc_98 10 = js_iret := rfl
theorem kc_99_0 : ja_code tc_99 0 = js_iload 0 1 := rfl
theorem kc_99_1 : ja_code tc_99 1 = js_if (fun x => x < 0) 9 4 := rfl
theorem kc_99_4 : ja_code tc_99 4 = js_iload 0 5 := rfl
theorem kc_99_5 : ja_code tc_99 5 = js_iload 1 6 := rfl
theorem kc_99_6 : ja_code tc_99 6 = js_ic2 (fun x y => x < y) 16 9 := rfl
theorem kc_99_16 : ja_code tc_99 16 = js_iload 0 17 := rfl
theorem kc_99_17 : ja_code tc_99 17 = js_iret := rfl
