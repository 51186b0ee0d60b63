theorem kr_0_0 : ja_code tr_0 0 = js_aload 0 1 := rfl
theorem kr_0_1 : ja_code tr_0 1 = js_get jl_r 0 0 4 := rfl
theorem kr_0_4 : ja_code tr_0 4 = js_iret := rfl
theorem kr_1_0 : ja_code tr_1 0 = js_aload 0 1 := rfl
theorem kr_1_1 : ja_code tr_1 1 = js_iload 1 2 := rfl
theorem kr_1_2 : ja_code tr_1 2 = js_put jl_r 0 0 5 := rfl
theorem kr_1_5 : ja_code tr_1 5 = js_ic 0 6 := rfl
theorem kr_1_6 : ja_code tr_1 6 = js_iret := rfl
theorem kr_2_0 : ja_code tr_2 0 = js_aload 0 1 := rfl
theorem kr_2_1 : ja_code tr_2 1 = js_ic 0 2 := rfl
theorem kr_2_2 : ja_code tr_2 2 = js_put jl_r 0 0 5 := rfl
theorem kr_2_5 : ja_code tr_2 5 = js_iload 3 6 := rfl
theorem kr_2_6 : ja_code tr_2 6 = js_if (fun x => x ≤ 0) 31 9 := rfl
theorem kr_2_9 : ja_code tr_2 9 = js_iload 3 10 := rfl
theorem kr_2_10 : ja_code tr_2 10 = js_ic 9 12 := rfl
theorem kr_2_12 : ja_code tr_2 12 = js_ic2 (fun x y => y ≤ x) 31 15 := rfl
theorem kr_2_15 : ja_code tr_2 15 = js_aload 0 16 := rfl
theorem kr_2_16 : ja_code tr_2 16 = js_get jl_r 0 2 19 := rfl
theorem kr_2_19 : ja_code tr_2 19 = js_iload 3 20 := rfl
theorem kr_2_20 : ja_code tr_2 20 = js_ib (fun x y => x + y) 21 := rfl
theorem kr_2_21 : ja_code tr_2 21 = js_ic 160 24 := rfl
theorem kr_2_24 : ja_code tr_2 24 = js_ic2 (fun x y => y < x) 31 27 := rfl
theorem kr_2_27 : ja_code tr_2 27 = js_ic 1 28 := rfl
theorem kr_2_28 : ja_code tr_2 28 = js_goto 32 := rfl
theorem kr_2_31 : ja_code tr_2 31 = js_ic 0 32 := rfl
theorem kr_2_32 : ja_code tr_2 32 = js_istore 4 34 := rfl
theorem kr_2_34 : ja_code tr_2 34 = js_ic 0 35 := rfl
theorem kr_2_35 : ja_code tr_2 35 = js_istore 5 37 := rfl
theorem kr_2_37 : ja_code tr_2 37 = js_iload 5 39 := rfl
theorem kr_2_39 : ja_code tr_2 39 = js_iload 3 40 := rfl
theorem kr_2_40 : ja_code tr_2 40 = js_ic2 (fun x y => y ≤ x) 96 43 := rfl
theorem kr_2_43 : ja_code tr_2 43 = js_iload 4 45 := rfl
theorem kr_2_45 : ja_code tr_2 45 = js_if (fun x => x = 0) 96 48 := rfl
theorem kr_2_48 : ja_code tr_2 48 = js_lload 1 49 := rfl
theorem kr_2_49 : ja_code tr_2 49 = js_ic 8 51 := rfl
theorem kr_2_51 : ja_code tr_2 51 = js_iload 5 53 := rfl
theorem kr_2_53 : ja_code tr_2 53 = js_ib (fun x y => x * y) 54 := rfl
theorem kr_2_54 : ja_code tr_2 54 = js_ls (fun x y => x >>> (y.toInt64 &&& 63)) 55 := rfl
theorem kr_2_55 : ja_code tr_2 55 = js_lc 255 58 := rfl
theorem kr_2_58 : ja_code tr_2 58 = js_lb (fun x y => x &&& y) 59 := rfl
theorem kr_2_59 : ja_code tr_2 59 = js_l2i 60 := rfl
theorem kr_2_60 : ja_code tr_2 60 = js_istore 6 62 := rfl
theorem kr_2_62 : ja_code tr_2 62 = js_iload 6 64 := rfl
theorem kr_2_64 : ja_code tr_2 64 = js_ic 10 66 := rfl
theorem kr_2_66 : ja_code tr_2 66 = js_ic2 (fun x y => x = y) 83 69 := rfl
theorem kr_2_69 : ja_code tr_2 69 = js_iload 6 71 := rfl
theorem kr_2_71 : ja_code tr_2 71 = js_ic 32 73 := rfl
theorem kr_2_73 : ja_code tr_2 73 = js_ic2 (fun x y => x < y) 87 76 := rfl
theorem kr_2_76 : ja_code tr_2 76 = js_iload 6 78 := rfl
theorem kr_2_78 : ja_code tr_2 78 = js_ic 126 80 := rfl
theorem kr_2_80 : ja_code tr_2 80 = js_ic2 (fun x y => y < x) 87 83 := rfl
theorem kr_2_83 : ja_code tr_2 83 = js_ic 1 84 := rfl
theorem kr_2_84 : ja_code tr_2 84 = js_goto 88 := rfl
theorem kr_2_87 : ja_code tr_2 87 = js_ic 0 88 := rfl
theorem kr_2_88 : ja_code tr_2 88 = js_istore 4 90 := rfl
theorem kr_2_90 : ja_code tr_2 90 = js_iinc 5 1 93 := rfl
theorem kr_2_93 : ja_code tr_2 93 = js_goto 37 := rfl
theorem kr_2_96 : ja_code tr_2 96 = js_ic 0 97 := rfl
theorem kr_2_97 : ja_code tr_2 97 = js_istore 5 99 := rfl
theorem kr_2_99 : ja_code tr_2 99 = js_iload 5 101 := rfl
theorem kr_2_101 : ja_code tr_2 101 = js_iload 3 102 := rfl
theorem kr_2_102 : ja_code tr_2 102 = js_ic2 (fun x y => y ≤ x) 147 105 := rfl
theorem kr_2_105 : ja_code tr_2 105 = js_iload 4 107 := rfl
theorem kr_2_107 : ja_code tr_2 107 = js_if (fun x => x = 0) 147 110 := rfl
theorem kr_2_110 : ja_code tr_2 110 = js_aload 0 111 := rfl
theorem kr_2_111 : ja_code tr_2 111 = js_get jl_r 0 1 114 := rfl
theorem kr_2_114 : ja_code tr_2 114 = js_aload 0 115 := rfl
theorem kr_2_115 : ja_code tr_2 115 = js_get jl_r 0 2 118 := rfl
theorem kr_2_118 : ja_code tr_2 118 = js_lload 1 119 := rfl
theorem kr_2_119 : ja_code tr_2 119 = js_ic 8 121 := rfl
theorem kr_2_121 : ja_code tr_2 121 = js_iload 5 123 := rfl
theorem kr_2_123 : ja_code tr_2 123 = js_ib (fun x y => x * y) 124 := rfl
theorem kr_2_124 : ja_code tr_2 124 = js_ls (fun x y => x >>> (y.toInt64 &&& 63)) 125 := rfl
theorem kr_2_125 : ja_code tr_2 125 = js_lc 255 128 := rfl
theorem kr_2_128 : ja_code tr_2 128 = js_lb (fun x y => x &&& y) 129 := rfl
theorem kr_2_129 : ja_code tr_2 129 = js_l2i 130 := rfl
theorem kr_2_130 : ja_code tr_2 130 = js_ast jl_r 131 := rfl
theorem kr_2_131 : ja_code tr_2 131 = js_aload 0 132 := rfl
theorem kr_2_132 : ja_code tr_2 132 = js_dup 133 := rfl
theorem kr_2_133 : ja_code tr_2 133 = js_get jl_r 0 2 136 := rfl
theorem kr_2_136 : ja_code tr_2 136 = js_ic 1 137 := rfl
theorem kr_2_137 : ja_code tr_2 137 = js_ib (fun x y => x + y) 138 := rfl
theorem kr_2_138 : ja_code tr_2 138 = js_put jl_r 0 2 141 := rfl
theorem kr_2_141 : ja_code tr_2 141 = js_iinc 5 1 144 := rfl
theorem kr_2_144 : ja_code tr_2 144 = js_goto 99 := rfl
theorem kr_2_147 : ja_code tr_2 147 = js_iload 4 149 := rfl
theorem kr_2_149 : ja_code tr_2 149 = js_zret := rfl
theorem kr_3_0 : ja_code tr_3 0 = js_aload 0 1 := rfl
theorem kr_3_1 : ja_code tr_3 1 = js_ic 0 2 := rfl
theorem kr_3_2 : ja_code tr_3 2 = js_put jl_r 0 0 5 := rfl
theorem kr_3_5 : ja_code tr_3 5 = js_iload 1 6 := rfl
theorem kr_3_6 : ja_code tr_3 6 = js_if (fun x => x < 0) 17 9 := rfl
theorem kr_3_9 : ja_code tr_3 9 = js_iload 1 10 := rfl
theorem kr_3_10 : ja_code tr_3 10 = js_aload 0 11 := rfl
theorem kr_3_11 : ja_code tr_3 11 = js_get jl_r 0 2 14 := rfl
theorem kr_3_14 : ja_code tr_3 14 = js_ic2 (fun x y => x ≤ y) 19 17 := rfl
theorem kr_3_17 : ja_code tr_3 17 = js_ic 0 18 := rfl
theorem kr_3_18 : ja_code tr_3 18 = js_zret := rfl
theorem kr_3_19 : ja_code tr_3 19 = js_aload 0 20 := rfl
theorem kr_3_20 : ja_code tr_3 20 = js_iload 1 21 := rfl
theorem kr_3_21 : ja_code tr_3 21 = js_put jl_r 0 2 24 := rfl
theorem kr_3_24 : ja_code tr_3 24 = js_ic 1 25 := rfl
theorem kr_3_25 : ja_code tr_3 25 = js_zret := rfl
theorem kr_4_0 : ja_code tr_4 0 = js_iload 0 1 := rfl
theorem kr_4_1 : ja_code tr_4 1 = js_ic 97 3 := rfl
theorem kr_4_3 : ja_code tr_4 3 = js_ic2 (fun x y => x < y) 16 6 := rfl
theorem kr_4_6 : ja_code tr_4 6 = js_iload 0 7 := rfl
theorem kr_4_7 : ja_code tr_4 7 = js_ic 122 9 := rfl
theorem kr_4_9 : ja_code tr_4 9 = js_ic2 (fun x y => y < x) 16 12 := rfl
theorem kr_4_12 : ja_code tr_4 12 = js_ic 1 13 := rfl
theorem kr_4_13 : ja_code tr_4 13 = js_goto 17 := rfl
theorem kr_4_16 : ja_code tr_4 16 = js_ic 0 17 := rfl
theorem kr_4_17 : ja_code tr_4 17 = js_zret := rfl
theorem kr_5_0 : ja_code tr_5 0 = js_iload 0 1 := rfl
theorem kr_5_1 : ja_code tr_5 1 = js_ic 48 3 := rfl
theorem kr_5_3 : ja_code tr_5 3 = js_ic2 (fun x y => x < y) 16 6 := rfl
theorem kr_5_6 : ja_code tr_5 6 = js_iload 0 7 := rfl
theorem kr_5_7 : ja_code tr_5 7 = js_ic 57 9 := rfl
theorem kr_5_9 : ja_code tr_5 9 = js_ic2 (fun x y => y < x) 16 12 := rfl
theorem kr_5_12 : ja_code tr_5 12 = js_ic 1 13 := rfl
theorem kr_5_13 : ja_code tr_5 13 = js_goto 17 := rfl
theorem kr_5_16 : ja_code tr_5 16 = js_ic 0 17 := rfl
theorem kr_5_17 : ja_code tr_5 17 = js_zret := rfl
theorem kr_6_0 : ja_code tr_6 0 = js_iload 0 1 := rfl
theorem kr_6_1 : ja_code tr_6 1 = js_ic 40 3 := rfl
theorem kr_6_3 : ja_code tr_6 3 = js_ic2 (fun x y => x < y) 12 6 := rfl
theorem kr_6_6 : ja_code tr_6 6 = js_iload 0 7 := rfl
theorem kr_6_7 : ja_code tr_6 7 = js_ic 45 9 := rfl
theorem kr_6_9 : ja_code tr_6 9 = js_ic2 (fun x y => x ≤ y) 72 12 := rfl
theorem kr_6_12 : ja_code tr_6 12 = js_iload 0 13 := rfl
theorem kr_6_13 : ja_code tr_6 13 = js_ic 47 15 := rfl
theorem kr_6_15 : ja_code tr_6 15 = js_ic2 (fun x y => x = y) 72 18 := rfl
theorem kr_6_18 : ja_code tr_6 18 = js_iload 0 19 := rfl
theorem kr_6_19 : ja_code tr_6 19 = js_ic 91 21 := rfl
theorem kr_6_21 : ja_code tr_6 21 = js_ic2 (fun x y => x = y) 72 24 := rfl
theorem kr_6_24 : ja_code tr_6 24 = js_iload 0 25 := rfl
theorem kr_6_25 : ja_code tr_6 25 = js_ic 93 27 := rfl
theorem kr_6_27 : ja_code tr_6 27 = js_ic2 (fun x y => x = y) 72 30 := rfl
theorem kr_6_30 : ja_code tr_6 30 = js_iload 0 31 := rfl
theorem kr_6_31 : ja_code tr_6 31 = js_ic 123 33 := rfl
theorem kr_6_33 : ja_code tr_6 33 = js_ic2 (fun x y => x = y) 72 36 := rfl
theorem kr_6_36 : ja_code tr_6 36 = js_iload 0 37 := rfl
theorem kr_6_37 : ja_code tr_6 37 = js_ic 125 39 := rfl
theorem kr_6_39 : ja_code tr_6 39 = js_ic2 (fun x y => x = y) 72 42 := rfl
theorem kr_6_42 : ja_code tr_6 42 = js_iload 0 43 := rfl
theorem kr_6_43 : ja_code tr_6 43 = js_ic 59 45 := rfl
theorem kr_6_45 : ja_code tr_6 45 = js_ic2 (fun x y => x = y) 72 48 := rfl
theorem kr_6_48 : ja_code tr_6 48 = js_iload 0 49 := rfl
theorem kr_6_49 : ja_code tr_6 49 = js_ic 61 51 := rfl
theorem kr_6_51 : ja_code tr_6 51 = js_ic2 (fun x y => x = y) 72 54 := rfl
theorem kr_6_54 : ja_code tr_6 54 = js_iload 0 55 := rfl
theorem kr_6_55 : ja_code tr_6 55 = js_ic 60 57 := rfl
theorem kr_6_57 : ja_code tr_6 57 = js_ic2 (fun x y => x = y) 72 60 := rfl
theorem kr_6_60 : ja_code tr_6 60 = js_iload 0 61 := rfl
theorem kr_6_61 : ja_code tr_6 61 = js_ic 38 63 := rfl
theorem kr_6_63 : ja_code tr_6 63 = js_ic2 (fun x y => x = y) 72 66 := rfl
theorem kr_6_66 : ja_code tr_6 66 = js_iload 0 67 := rfl
theorem kr_6_67 : ja_code tr_6 67 = js_ic 33 69 := rfl
theorem kr_6_69 : ja_code tr_6 69 = js_ic2 (fun x y => x = y) 72 76 := rfl
theorem kr_6_72 : ja_code tr_6 72 = js_ic 1 73 := rfl
theorem kr_6_73 : ja_code tr_6 73 = js_goto 77 := rfl
theorem kr_6_76 : ja_code tr_6 76 = js_ic 0 77 := rfl
theorem kr_6_77 : ja_code tr_6 77 = js_zret := rfl
theorem kr_7_0 : ja_code tr_7 0 = js_lc 0 1 := rfl
theorem kr_7_1 : ja_code tr_7 1 = js_lstore 3 2 := rfl
theorem kr_7_2 : ja_code tr_7 2 = js_iload 2 3 := rfl
theorem kr_7_3 : ja_code tr_7 3 = js_ic 1 4 := rfl
theorem kr_7_4 : ja_code tr_7 4 = js_ib (fun x y => x - y) 5 := rfl
theorem kr_7_5 : ja_code tr_7 5 = js_istore 5 7 := rfl
theorem kr_7_7 : ja_code tr_7 7 = js_iload 5 9 := rfl
theorem kr_7_9 : ja_code tr_7 9 = js_if (fun x => x < 0) 34 12 := rfl
theorem kr_7_12 : ja_code tr_7 12 = js_lload 3 13 := rfl
theorem kr_7_13 : ja_code tr_7 13 = js_ic 8 15 := rfl
theorem kr_7_15 : ja_code tr_7 15 = js_ls (fun x y => x <<< (y.toInt64 &&& 63)) 16 := rfl
theorem kr_7_16 : ja_code tr_7 16 = js_aload 0 17 := rfl
theorem kr_7_17 : ja_code tr_7 17 = js_get jl_r 0 1 20 := rfl
theorem kr_7_20 : ja_code tr_7 20 = js_iload 1 21 := rfl
theorem kr_7_21 : ja_code tr_7 21 = js_iload 5 23 := rfl
theorem kr_7_23 : ja_code tr_7 23 = js_ib (fun x y => x + y) 24 := rfl
theorem kr_7_24 : ja_code tr_7 24 = js_ald jl_r 0 25 := rfl
theorem kr_7_25 : ja_code tr_7 25 = js_i2l 26 := rfl
theorem kr_7_26 : ja_code tr_7 26 = js_lb (fun x y => x ||| y) 27 := rfl
theorem kr_7_27 : ja_code tr_7 27 = js_lstore 3 28 := rfl
theorem kr_7_28 : ja_code tr_7 28 = js_iinc 5 (-1) 31 := rfl
theorem kr_7_31 : ja_code tr_7 31 = js_goto 7 := rfl
theorem kr_7_34 : ja_code tr_7 34 = js_lload 3 35 := rfl
theorem kr_7_35 : ja_code tr_7 35 = js_lret := rfl
theorem kr_8_0 : ja_code tr_8 0 = js_lload 0 1 := rfl
theorem kr_8_1 : ja_code tr_8 1 = js_lc 28821929497491828 4 := rfl
theorem kr_8_4 : ja_code tr_8 4 = js_lcmp 5 := rfl
theorem kr_8_5 : ja_code tr_8 5 = js_if (fun x => x = 0) 8 12 := rfl
theorem kr_8_8 : ja_code tr_8 8 = js_ic 4 9 := rfl
theorem kr_8_9 : ja_code tr_8 9 = js_goto 116 := rfl
theorem kr_8_12 : ja_code tr_8 12 = js_lload 0 13 := rfl
theorem kr_8_13 : ja_code tr_8 13 = js_lc 7630441 16 := rfl
theorem kr_8_16 : ja_code tr_8 16 = js_lcmp 17 := rfl
theorem kr_8_17 : ja_code tr_8 17 = js_if (fun x => x = 0) 20 24 := rfl
theorem kr_8_20 : ja_code tr_8 20 = js_ic 5 21 := rfl
theorem kr_8_21 : ja_code tr_8 21 = js_goto 116 := rfl
theorem kr_8_24 : ja_code tr_8 24 = js_lload 0 25 := rfl
theorem kr_8_25 : ja_code tr_8 25 = js_lc 1918986339 28 := rfl
theorem kr_8_28 : ja_code tr_8 28 = js_lcmp 29 := rfl
theorem kr_8_29 : ja_code tr_8 29 = js_if (fun x => x = 0) 32 37 := rfl
theorem kr_8_32 : ja_code tr_8 32 = js_ic 6 34 := rfl
theorem kr_8_34 : ja_code tr_8 34 = js_goto 116 := rfl
theorem kr_8_37 : ja_code tr_8 37 = js_lload 0 38 := rfl
theorem kr_8_38 : ja_code tr_8 38 = js_lc 1684631414 41 := rfl
theorem kr_8_41 : ja_code tr_8 41 = js_lcmp 42 := rfl
theorem kr_8_42 : ja_code tr_8 42 = js_if (fun x => x = 0) 45 50 := rfl
theorem kr_8_45 : ja_code tr_8 45 = js_ic 7 47 := rfl
theorem kr_8_47 : ja_code tr_8 47 = js_goto 116 := rfl
theorem kr_8_50 : ja_code tr_8 50 = js_lload 0 51 := rfl
theorem kr_8_51 : ja_code tr_8 51 = js_lc 26217 54 := rfl
theorem kr_8_54 : ja_code tr_8 54 = js_lcmp 55 := rfl
theorem kr_8_55 : ja_code tr_8 55 = js_if (fun x => x = 0) 58 63 := rfl
theorem kr_8_58 : ja_code tr_8 58 = js_ic 8 60 := rfl
theorem kr_8_60 : ja_code tr_8 60 = js_goto 116 := rfl
theorem kr_8_63 : ja_code tr_8 63 = js_lload 0 64 := rfl
theorem kr_8_64 : ja_code tr_8 64 = js_lc 1702063205 67 := rfl
theorem kr_8_67 : ja_code tr_8 67 = js_lcmp 68 := rfl
theorem kr_8_68 : ja_code tr_8 68 = js_if (fun x => x = 0) 71 76 := rfl
theorem kr_8_71 : ja_code tr_8 71 = js_ic 9 73 := rfl
theorem kr_8_73 : ja_code tr_8 73 = js_goto 116 := rfl
theorem kr_8_76 : ja_code tr_8 76 = js_lload 0 77 := rfl
theorem kr_8_77 : ja_code tr_8 77 = js_lc 435610544247 80 := rfl
theorem kr_8_80 : ja_code tr_8 80 = js_lcmp 81 := rfl
theorem kr_8_81 : ja_code tr_8 81 = js_if (fun x => x = 0) 84 89 := rfl
theorem kr_8_84 : ja_code tr_8 84 = js_ic 10 86 := rfl
theorem kr_8_86 : ja_code tr_8 86 = js_goto 116 := rfl
theorem kr_8_89 : ja_code tr_8 89 = js_lload 0 90 := rfl
theorem kr_8_90 : ja_code tr_8 90 = js_lc 121437875889522 93 := rfl
theorem kr_8_93 : ja_code tr_8 93 = js_lcmp 94 := rfl
theorem kr_8_94 : ja_code tr_8 94 = js_if (fun x => x = 0) 97 102 := rfl
theorem kr_8_97 : ja_code tr_8 97 = js_ic 11 99 := rfl
theorem kr_8_99 : ja_code tr_8 99 = js_goto 116 := rfl
theorem kr_8_102 : ja_code tr_8 102 = js_lload 0 103 := rfl
theorem kr_8_103 : ja_code tr_8 103 = js_lc 112628629924211 106 := rfl
theorem kr_8_106 : ja_code tr_8 106 = js_lcmp 107 := rfl
theorem kr_8_107 : ja_code tr_8 107 = js_if (fun x => x = 0) 110 115 := rfl
theorem kr_8_110 : ja_code tr_8 110 = js_ic 12 112 := rfl
theorem kr_8_112 : ja_code tr_8 112 = js_goto 116 := rfl
theorem kr_8_115 : ja_code tr_8 115 = js_ic 1 116 := rfl
theorem kr_8_116 : ja_code tr_8 116 = js_iret := rfl
theorem kr_9_0 : ja_code tr_9 0 = js_aload 0 1 := rfl
theorem kr_9_1 : ja_code tr_9 1 = js_get jl_r 0 4 4 := rfl
theorem kr_9_4 : ja_code tr_9 4 = js_aload 0 5 := rfl
theorem kr_9_5 : ja_code tr_9 5 = js_get jl_r 0 3 8 := rfl
theorem kr_9_8 : ja_code tr_9 8 = js_iload 1 9 := rfl
theorem kr_9_9 : ja_code tr_9 9 = js_ast jl_r 10 := rfl
theorem kr_9_10 : ja_code tr_9 10 = js_aload 0 11 := rfl
theorem kr_9_11 : ja_code tr_9 11 = js_get jl_r 0 5 14 := rfl
theorem kr_9_14 : ja_code tr_9 14 = js_aload 0 15 := rfl
theorem kr_9_15 : ja_code tr_9 15 = js_get jl_r 0 3 18 := rfl
theorem kr_9_18 : ja_code tr_9 18 = js_iload 2 19 := rfl
theorem kr_9_19 : ja_code tr_9 19 = js_ast jl_r 20 := rfl
theorem kr_9_20 : ja_code tr_9 20 = js_aload 0 21 := rfl
theorem kr_9_21 : ja_code tr_9 21 = js_get jl_r 0 6 24 := rfl
theorem kr_9_24 : ja_code tr_9 24 = js_aload 0 25 := rfl
theorem kr_9_25 : ja_code tr_9 25 = js_get jl_r 0 3 28 := rfl
theorem kr_9_28 : ja_code tr_9 28 = js_iload 3 29 := rfl
theorem kr_9_29 : ja_code tr_9 29 = js_ast jl_r 30 := rfl
theorem kr_9_30 : ja_code tr_9 30 = js_aload 0 31 := rfl
theorem kr_9_31 : ja_code tr_9 31 = js_get jl_r 0 7 34 := rfl
theorem kr_9_34 : ja_code tr_9 34 = js_aload 0 35 := rfl
theorem kr_9_35 : ja_code tr_9 35 = js_get jl_r 0 3 38 := rfl
theorem kr_9_38 : ja_code tr_9 38 = js_ic 0 39 := rfl
theorem kr_9_39 : ja_code tr_9 39 = js_ast jl_r 40 := rfl
theorem kr_9_40 : ja_code tr_9 40 = js_aload 0 41 := rfl
theorem kr_9_41 : ja_code tr_9 41 = js_get jl_r 0 8 44 := rfl
theorem kr_9_44 : ja_code tr_9 44 = js_aload 0 45 := rfl
theorem kr_9_45 : ja_code tr_9 45 = js_get jl_r 0 3 48 := rfl
theorem kr_9_48 : ja_code tr_9 48 = js_ic (-1) 49 := rfl
theorem kr_9_49 : ja_code tr_9 49 = js_ast jl_r 50 := rfl
theorem kr_9_50 : ja_code tr_9 50 = js_aload 0 51 := rfl
theorem kr_9_51 : ja_code tr_9 51 = js_dup 52 := rfl
theorem kr_9_52 : ja_code tr_9 52 = js_get jl_r 0 3 55 := rfl
theorem kr_9_55 : ja_code tr_9 55 = js_ic 1 56 := rfl
theorem kr_9_56 : ja_code tr_9 56 = js_ib (fun x y => x + y) 57 := rfl
theorem kr_9_57 : ja_code tr_9 57 = js_put jl_r 0 3 60 := rfl
theorem kr_9_60 : ja_code tr_9 60 = js_ret := rfl
theorem kr_10_0 : ja_code tr_10 0 = js_aload 0 1 := rfl
theorem kr_10_1 : ja_code tr_10 1 = js_ic 0 2 := rfl
theorem kr_10_2 : ja_code tr_10 2 = js_put jl_r 0 3 5 := rfl
theorem kr_10_5 : ja_code tr_10 5 = js_ic 0 6 := rfl
theorem kr_10_6 : ja_code tr_10 6 = js_istore 1 7 := rfl
theorem kr_10_7 : ja_code tr_10 7 = js_iload 1 8 := rfl
theorem kr_10_8 : ja_code tr_10 8 = js_aload 0 9 := rfl
theorem kr_10_9 : ja_code tr_10 9 = js_get jl_r 0 2 12 := rfl
theorem kr_10_12 : ja_code tr_10 12 = js_ic2 (fun x y => y ≤ x) 274 15 := rfl
theorem kr_10_15 : ja_code tr_10 15 = js_iload 1 16 := rfl
theorem kr_10_16 : ja_code tr_10 16 = js_istore 2 17 := rfl
theorem kr_10_17 : ja_code tr_10 17 = js_aload 0 18 := rfl
theorem kr_10_18 : ja_code tr_10 18 = js_get jl_r 0 1 21 := rfl
theorem kr_10_21 : ja_code tr_10 21 = js_iload 1 22 := rfl
theorem kr_10_22 : ja_code tr_10 22 = js_ald jl_r 0 23 := rfl
theorem kr_10_23 : ja_code tr_10 23 = js_istore 3 24 := rfl
theorem kr_10_24 : ja_code tr_10 24 = js_iinc 1 1 27 := rfl
theorem kr_10_27 : ja_code tr_10 27 = js_iload 3 28 := rfl
theorem kr_10_28 : ja_code tr_10 28 = js_cs 4 1 31 := rfl
theorem kr_10_31 : ja_code tr_10 31 = js_if (fun x => x = 0) 152 34 := rfl
theorem kr_10_34 : ja_code tr_10 34 = js_iload 1 35 := rfl
theorem kr_10_35 : ja_code tr_10 35 = js_aload 0 36 := rfl
theorem kr_10_36 : ja_code tr_10 36 = js_get jl_r 0 2 39 := rfl
theorem kr_10_39 : ja_code tr_10 39 = js_ic2 (fun x y => y ≤ x) 80 42 := rfl
theorem kr_10_42 : ja_code tr_10 42 = js_iload 1 43 := rfl
theorem kr_10_43 : ja_code tr_10 43 = js_iload 2 44 := rfl
theorem kr_10_44 : ja_code tr_10 44 = js_ib (fun x y => x - y) 45 := rfl
theorem kr_10_45 : ja_code tr_10 45 = js_ic 8 47 := rfl
theorem kr_10_47 : ja_code tr_10 47 = js_ic2 (fun x y => y ≤ x) 80 50 := rfl
theorem kr_10_50 : ja_code tr_10 50 = js_aload 0 51 := rfl
theorem kr_10_51 : ja_code tr_10 51 = js_get jl_r 0 1 54 := rfl
theorem kr_10_54 : ja_code tr_10 54 = js_iload 1 55 := rfl
theorem kr_10_55 : ja_code tr_10 55 = js_ald jl_r 0 56 := rfl
theorem kr_10_56 : ja_code tr_10 56 = js_cs 4 1 59 := rfl
theorem kr_10_59 : ja_code tr_10 59 = js_if (fun x => x = 0) 62 74 := rfl
theorem kr_10_62 : ja_code tr_10 62 = js_aload 0 63 := rfl
theorem kr_10_63 : ja_code tr_10 63 = js_get jl_r 0 1 66 := rfl
theorem kr_10_66 : ja_code tr_10 66 = js_iload 1 67 := rfl
theorem kr_10_67 : ja_code tr_10 67 = js_ald jl_r 0 68 := rfl
theorem kr_10_68 : ja_code tr_10 68 = js_cs 5 1 71 := rfl
theorem kr_10_71 : ja_code tr_10 71 = js_if (fun x => x = 0) 80 74 := rfl
theorem kr_10_74 : ja_code tr_10 74 = js_iinc 1 1 77 := rfl
theorem kr_10_77 : ja_code tr_10 77 = js_goto 34 := rfl
theorem kr_10_80 : ja_code tr_10 80 = js_aload 0 81 := rfl
theorem kr_10_81 : ja_code tr_10 81 = js_aload 0 82 := rfl
theorem kr_10_82 : ja_code tr_10 82 = js_iload 2 83 := rfl
theorem kr_10_83 : ja_code tr_10 83 = js_iload 1 84 := rfl
theorem kr_10_84 : ja_code tr_10 84 = js_iload 2 85 := rfl
theorem kr_10_85 : ja_code tr_10 85 = js_ib (fun x y => x - y) 86 := rfl
theorem kr_10_86 : ja_code tr_10 86 = js_cv jl_r 0 7 2 89 := rfl
theorem kr_10_89 : ja_code tr_10 89 = js_cs 8 1 92 := rfl
theorem kr_10_92 : ja_code tr_10 92 = js_iload 2 93 := rfl
theorem kr_10_93 : ja_code tr_10 93 = js_iload 1 94 := rfl
theorem kr_10_94 : ja_code tr_10 94 = js_iload 2 95 := rfl
theorem kr_10_95 : ja_code tr_10 95 = js_ib (fun x y => x - y) 96 := rfl
theorem kr_10_96 : ja_code tr_10 96 = js_cv jl_r 0 9 3 99 := rfl
theorem kr_10_99 : ja_code tr_10 99 = js_iload 1 100 := rfl
theorem kr_10_100 : ja_code tr_10 100 = js_aload 0 101 := rfl
theorem kr_10_101 : ja_code tr_10 101 = js_get jl_r 0 2 104 := rfl
theorem kr_10_104 : ja_code tr_10 104 = js_ic2 (fun x y => y ≤ x) 271 107 := rfl
theorem kr_10_107 : ja_code tr_10 107 = js_iload 1 108 := rfl
theorem kr_10_108 : ja_code tr_10 108 = js_iload 2 109 := rfl
theorem kr_10_109 : ja_code tr_10 109 = js_ib (fun x y => x - y) 110 := rfl
theorem kr_10_110 : ja_code tr_10 110 = js_ic 8 112 := rfl
theorem kr_10_112 : ja_code tr_10 112 = js_ic2 (fun x y => x = y) 115 271 := rfl
theorem kr_10_115 : ja_code tr_10 115 = js_aload 0 116 := rfl
theorem kr_10_116 : ja_code tr_10 116 = js_get jl_r 0 1 119 := rfl
theorem kr_10_119 : ja_code tr_10 119 = js_iload 1 120 := rfl
theorem kr_10_120 : ja_code tr_10 120 = js_ald jl_r 0 121 := rfl
theorem kr_10_121 : ja_code tr_10 121 = js_cs 4 1 124 := rfl
theorem kr_10_124 : ja_code tr_10 124 = js_if (fun x => x = 0) 127 139 := rfl
theorem kr_10_127 : ja_code tr_10 127 = js_aload 0 128 := rfl
theorem kr_10_128 : ja_code tr_10 128 = js_get jl_r 0 1 131 := rfl
theorem kr_10_131 : ja_code tr_10 131 = js_iload 1 132 := rfl
theorem kr_10_132 : ja_code tr_10 132 = js_ald jl_r 0 133 := rfl
theorem kr_10_133 : ja_code tr_10 133 = js_cs 5 1 136 := rfl
theorem kr_10_136 : ja_code tr_10 136 = js_if (fun x => x = 0) 271 139 := rfl
theorem kr_10_139 : ja_code tr_10 139 = js_aload 0 140 := rfl
theorem kr_10_140 : ja_code tr_10 140 = js_ic 3 141 := rfl
theorem kr_10_141 : ja_code tr_10 141 = js_iload 1 142 := rfl
theorem kr_10_142 : ja_code tr_10 142 = js_ic 1 143 := rfl
theorem kr_10_143 : ja_code tr_10 143 = js_cv jl_r 0 9 3 146 := rfl
theorem kr_10_146 : ja_code tr_10 146 = js_iinc 1 1 149 := rfl
theorem kr_10_149 : ja_code tr_10 149 = js_goto 271 := rfl
theorem kr_10_152 : ja_code tr_10 152 = js_iload 3 153 := rfl
theorem kr_10_153 : ja_code tr_10 153 = js_cs 5 1 156 := rfl
theorem kr_10_156 : ja_code tr_10 156 = js_if (fun x => x = 0) 241 159 := rfl
theorem kr_10_159 : ja_code tr_10 159 = js_iload 1 160 := rfl
theorem kr_10_160 : ja_code tr_10 160 = js_aload 0 161 := rfl
theorem kr_10_161 : ja_code tr_10 161 = js_get jl_r 0 2 164 := rfl
theorem kr_10_164 : ja_code tr_10 164 = js_ic2 (fun x y => y ≤ x) 192 167 := rfl
theorem kr_10_167 : ja_code tr_10 167 = js_iload 1 168 := rfl
theorem kr_10_168 : ja_code tr_10 168 = js_iload 2 169 := rfl
theorem kr_10_169 : ja_code tr_10 169 = js_ib (fun x y => x - y) 170 := rfl
theorem kr_10_170 : ja_code tr_10 170 = js_ic 4 171 := rfl
theorem kr_10_171 : ja_code tr_10 171 = js_ic2 (fun x y => y ≤ x) 192 174 := rfl
theorem kr_10_174 : ja_code tr_10 174 = js_aload 0 175 := rfl
theorem kr_10_175 : ja_code tr_10 175 = js_get jl_r 0 1 178 := rfl
theorem kr_10_178 : ja_code tr_10 178 = js_iload 1 179 := rfl
theorem kr_10_179 : ja_code tr_10 179 = js_ald jl_r 0 180 := rfl
theorem kr_10_180 : ja_code tr_10 180 = js_cs 5 1 183 := rfl
theorem kr_10_183 : ja_code tr_10 183 = js_if (fun x => x = 0) 192 186 := rfl
theorem kr_10_186 : ja_code tr_10 186 = js_iinc 1 1 189 := rfl
theorem kr_10_189 : ja_code tr_10 189 = js_goto 159 := rfl
theorem kr_10_192 : ja_code tr_10 192 = js_aload 0 193 := rfl
theorem kr_10_193 : ja_code tr_10 193 = js_ic 2 194 := rfl
theorem kr_10_194 : ja_code tr_10 194 = js_iload 2 195 := rfl
theorem kr_10_195 : ja_code tr_10 195 = js_iload 1 196 := rfl
theorem kr_10_196 : ja_code tr_10 196 = js_iload 2 197 := rfl
theorem kr_10_197 : ja_code tr_10 197 = js_ib (fun x y => x - y) 198 := rfl
theorem kr_10_198 : ja_code tr_10 198 = js_cv jl_r 0 9 3 201 := rfl
theorem kr_10_201 : ja_code tr_10 201 = js_iload 1 202 := rfl
theorem kr_10_202 : ja_code tr_10 202 = js_aload 0 203 := rfl
theorem kr_10_203 : ja_code tr_10 203 = js_get jl_r 0 2 206 := rfl
theorem kr_10_206 : ja_code tr_10 206 = js_ic2 (fun x y => y ≤ x) 271 209 := rfl
theorem kr_10_209 : ja_code tr_10 209 = js_iload 1 210 := rfl
theorem kr_10_210 : ja_code tr_10 210 = js_iload 2 211 := rfl
theorem kr_10_211 : ja_code tr_10 211 = js_ib (fun x y => x - y) 212 := rfl
theorem kr_10_212 : ja_code tr_10 212 = js_ic 4 213 := rfl
theorem kr_10_213 : ja_code tr_10 213 = js_ic2 (fun x y => x = y) 216 271 := rfl
theorem kr_10_216 : ja_code tr_10 216 = js_aload 0 217 := rfl
theorem kr_10_217 : ja_code tr_10 217 = js_get jl_r 0 1 220 := rfl
theorem kr_10_220 : ja_code tr_10 220 = js_iload 1 221 := rfl
theorem kr_10_221 : ja_code tr_10 221 = js_ald jl_r 0 222 := rfl
theorem kr_10_222 : ja_code tr_10 222 = js_cs 5 1 225 := rfl
theorem kr_10_225 : ja_code tr_10 225 = js_if (fun x => x = 0) 271 228 := rfl
theorem kr_10_228 : ja_code tr_10 228 = js_aload 0 229 := rfl
theorem kr_10_229 : ja_code tr_10 229 = js_ic 3 230 := rfl
theorem kr_10_230 : ja_code tr_10 230 = js_iload 1 231 := rfl
theorem kr_10_231 : ja_code tr_10 231 = js_ic 1 232 := rfl
theorem kr_10_232 : ja_code tr_10 232 = js_cv jl_r 0 9 3 235 := rfl
theorem kr_10_235 : ja_code tr_10 235 = js_iinc 1 1 238 := rfl
theorem kr_10_238 : ja_code tr_10 238 = js_goto 271 := rfl
theorem kr_10_241 : ja_code tr_10 241 = js_iload 3 242 := rfl
theorem kr_10_242 : ja_code tr_10 242 = js_ic 10 244 := rfl
theorem kr_10_244 : ja_code tr_10 244 = js_ic2 (fun x y => x = y) 271 247 := rfl
theorem kr_10_247 : ja_code tr_10 247 = js_iload 3 248 := rfl
theorem kr_10_248 : ja_code tr_10 248 = js_ic 32 250 := rfl
theorem kr_10_250 : ja_code tr_10 250 = js_ic2 (fun x y => x = y) 271 253 := rfl
theorem kr_10_253 : ja_code tr_10 253 = js_aload 0 254 := rfl
theorem kr_10_254 : ja_code tr_10 254 = js_iload 3 255 := rfl
theorem kr_10_255 : ja_code tr_10 255 = js_cs 6 1 258 := rfl
theorem kr_10_258 : ja_code tr_10 258 = js_if (fun x => x = 0) 265 261 := rfl
theorem kr_10_261 : ja_code tr_10 261 = js_iload 3 262 := rfl
theorem kr_10_262 : ja_code tr_10 262 = js_goto 266 := rfl
theorem kr_10_265 : ja_code tr_10 265 = js_ic 3 266 := rfl
theorem kr_10_266 : ja_code tr_10 266 = js_iload 2 267 := rfl
theorem kr_10_267 : ja_code tr_10 267 = js_ic 1 268 := rfl
theorem kr_10_268 : ja_code tr_10 268 = js_cv jl_r 0 9 3 271 := rfl
theorem kr_10_271 : ja_code tr_10 271 = js_goto 7 := rfl
theorem kr_10_274 : ja_code tr_10 274 = js_aload 0 275 := rfl
theorem kr_10_275 : ja_code tr_10 275 = js_ic 0 276 := rfl
theorem kr_10_276 : ja_code tr_10 276 = js_aload 0 277 := rfl
theorem kr_10_277 : ja_code tr_10 277 = js_get jl_r 0 2 280 := rfl
theorem kr_10_280 : ja_code tr_10 280 = js_ic 0 281 := rfl
theorem kr_10_281 : ja_code tr_10 281 = js_cv jl_r 0 9 3 284 := rfl
theorem kr_10_284 : ja_code tr_10 284 = js_aload 0 285 := rfl
theorem kr_10_285 : ja_code tr_10 285 = js_dup 286 := rfl
theorem kr_10_286 : ja_code tr_10 286 = js_get jl_r 0 3 289 := rfl
theorem kr_10_289 : ja_code tr_10 289 = js_ic 1 290 := rfl
theorem kr_10_290 : ja_code tr_10 290 = js_ib (fun x y => x - y) 291 := rfl
theorem kr_10_291 : ja_code tr_10 291 = js_put jl_r 0 3 294 := rfl
theorem kr_10_294 : ja_code tr_10 294 = js_ret := rfl
theorem kr_11_0 : ja_code tr_11 0 = js_aload 0 1 := rfl
theorem kr_11_1 : ja_code tr_11 1 = js_get jl_r 0 13 4 := rfl
theorem kr_11_4 : ja_code tr_11 4 = js_aload 0 5 := rfl
theorem kr_11_5 : ja_code tr_11 5 = js_get jl_r 0 12 8 := rfl
theorem kr_11_8 : ja_code tr_11 8 = js_iload 1 9 := rfl
theorem kr_11_9 : ja_code tr_11 9 = js_ast jl_r 10 := rfl
theorem kr_11_10 : ja_code tr_11 10 = js_aload 0 11 := rfl
theorem kr_11_11 : ja_code tr_11 11 = js_get jl_r 0 14 14 := rfl
theorem kr_11_14 : ja_code tr_11 14 = js_aload 0 15 := rfl
theorem kr_11_15 : ja_code tr_11 15 = js_get jl_r 0 12 18 := rfl
theorem kr_11_18 : ja_code tr_11 18 = js_iload 2 19 := rfl
theorem kr_11_19 : ja_code tr_11 19 = js_ast jl_r 20 := rfl
theorem kr_11_20 : ja_code tr_11 20 = js_aload 0 21 := rfl
theorem kr_11_21 : ja_code tr_11 21 = js_dup 22 := rfl
theorem kr_11_22 : ja_code tr_11 22 = js_get jl_r 0 12 25 := rfl
theorem kr_11_25 : ja_code tr_11 25 = js_ic 1 26 := rfl
theorem kr_11_26 : ja_code tr_11 26 = js_ib (fun x y => x + y) 27 := rfl
theorem kr_11_27 : ja_code tr_11 27 = js_put jl_r 0 12 30 := rfl
theorem kr_11_30 : ja_code tr_11 30 = js_ret := rfl
theorem kr_12_0 : ja_code tr_12 0 = js_aload 0 1 := rfl
theorem kr_12_1 : ja_code tr_12 1 = js_ic 1 2 := rfl
theorem kr_12_2 : ja_code tr_12 2 = js_putz jl_r 0 16 5 := rfl
theorem kr_12_5 : ja_code tr_12 5 = js_aload 0 6 := rfl
theorem kr_12_6 : ja_code tr_12 6 = js_aload 0 7 := rfl
theorem kr_12_7 : ja_code tr_12 7 = js_get jl_r 0 9 10 := rfl
theorem kr_12_10 : ja_code tr_12 10 = js_put jl_r 0 10 13 := rfl
theorem kr_12_13 : ja_code tr_12 13 = js_ret := rfl
theorem kr_13_0 : ja_code tr_13 0 = js_aload 0 1 := rfl
theorem kr_13_1 : ja_code tr_13 1 = js_get jl_r 0 4 4 := rfl
theorem kr_13_4 : ja_code tr_13 4 = js_aload 0 5 := rfl
theorem kr_13_5 : ja_code tr_13 5 = js_get jl_r 0 9 8 := rfl
theorem kr_13_8 : ja_code tr_13 8 = js_ald jl_r 0 9 := rfl
theorem kr_13_9 : ja_code tr_13 9 = js_iload 1 10 := rfl
theorem kr_13_10 : ja_code tr_13 10 = js_ic2 (fun x y => x = y) 13 17 := rfl
theorem kr_13_13 : ja_code tr_13 13 = js_ic 1 14 := rfl
theorem kr_13_14 : ja_code tr_13 14 = js_goto 18 := rfl
theorem kr_13_17 : ja_code tr_13 17 = js_ic 0 18 := rfl
theorem kr_13_18 : ja_code tr_13 18 = js_zret := rfl
theorem kr_14_0 : ja_code tr_14 0 = js_aload 0 1 := rfl
theorem kr_14_1 : ja_code tr_14 1 = js_get jl_r 0 9 4 := rfl
theorem kr_14_4 : ja_code tr_14 4 = js_aload 0 5 := rfl
theorem kr_14_5 : ja_code tr_14 5 = js_get jl_r 0 3 8 := rfl
theorem kr_14_8 : ja_code tr_14 8 = js_ic2 (fun x y => y ≤ x) 25 11 := rfl
theorem kr_14_11 : ja_code tr_14 11 = js_aload 0 12 := rfl
theorem kr_14_12 : ja_code tr_14 12 = js_get jl_r 0 4 15 := rfl
theorem kr_14_15 : ja_code tr_14 15 = js_aload 0 16 := rfl
theorem kr_14_16 : ja_code tr_14 16 = js_get jl_r 0 9 19 := rfl
theorem kr_14_19 : ja_code tr_14 19 = js_ic 1 20 := rfl
theorem kr_14_20 : ja_code tr_14 20 = js_ib (fun x y => x + y) 21 := rfl
theorem kr_14_21 : ja_code tr_14 21 = js_ald jl_r 0 22 := rfl
theorem kr_14_22 : ja_code tr_14 22 = js_goto 26 := rfl
theorem kr_14_25 : ja_code tr_14 25 = js_ic 0 26 := rfl
theorem kr_14_26 : ja_code tr_14 26 = js_iret := rfl
theorem kr_15_0 : ja_code tr_15 0 = js_aload 0 1 := rfl
theorem kr_15_1 : ja_code tr_15 1 = js_get jl_r 0 15 4 := rfl
theorem kr_15_4 : ja_code tr_15 4 = js_ic 8 6 := rfl
theorem kr_15_6 : ja_code tr_15 6 = js_ic2 (fun x y => x = y) 9 16 := rfl
theorem kr_15_9 : ja_code tr_15 9 = js_aload 0 10 := rfl
theorem kr_15_10 : ja_code tr_15 10 = js_cv jl_r 0 12 0 13 := rfl
theorem kr_15_13 : ja_code tr_15 13 = js_goto 36 := rfl
theorem kr_15_16 : ja_code tr_15 16 = js_aload 0 17 := rfl
theorem kr_15_17 : ja_code tr_15 17 = js_dup 18 := rfl
theorem kr_15_18 : ja_code tr_15 18 = js_get jl_r 0 15 21 := rfl
theorem kr_15_21 : ja_code tr_15 21 = js_ic 1 22 := rfl
theorem kr_15_22 : ja_code tr_15 22 = js_ib (fun x y => x + y) 23 := rfl
theorem kr_15_23 : ja_code tr_15 23 = js_put jl_r 0 15 26 := rfl
theorem kr_15_26 : ja_code tr_15 26 = js_aload 0 27 := rfl
theorem kr_15_27 : ja_code tr_15 27 = js_dup 28 := rfl
theorem kr_15_28 : ja_code tr_15 28 = js_get jl_r 0 9 31 := rfl
theorem kr_15_31 : ja_code tr_15 31 = js_ic 1 32 := rfl
theorem kr_15_32 : ja_code tr_15 32 = js_ib (fun x y => x + y) 33 := rfl
theorem kr_15_33 : ja_code tr_15 33 = js_put jl_r 0 9 36 := rfl
theorem kr_15_36 : ja_code tr_15 36 = js_ret := rfl
theorem kr_16_0 : ja_code tr_16 0 = js_aload 0 1 := rfl
theorem kr_16_1 : ja_code tr_16 1 = js_get jl_r 0 16 4 := rfl
theorem kr_16_4 : ja_code tr_16 4 = js_if (fun x => x = 0) 8 7 := rfl
theorem kr_16_7 : ja_code tr_16 7 = js_ret := rfl
theorem kr_16_8 : ja_code tr_16 8 = js_aload 0 9 := rfl
theorem kr_16_9 : ja_code tr_16 9 = js_iload 1 10 := rfl
theorem kr_16_10 : ja_code tr_16 10 = js_cv jl_r 0 13 1 13 := rfl
theorem kr_16_13 : ja_code tr_16 13 = js_if (fun x => x = 0) 16 21 := rfl
theorem kr_16_16 : ja_code tr_16 16 = js_aload 0 17 := rfl
theorem kr_16_17 : ja_code tr_16 17 = js_cv jl_r 0 12 0 20 := rfl
theorem kr_16_20 : ja_code tr_16 20 = js_ret := rfl
theorem kr_16_21 : ja_code tr_16 21 = js_aload 0 22 := rfl
theorem kr_16_22 : ja_code tr_16 22 = js_iload 2 23 := rfl
theorem kr_16_23 : ja_code tr_16 23 = js_if (fun x => x = 0) 35 26 := rfl
theorem kr_16_26 : ja_code tr_16 26 = js_aload 0 27 := rfl
theorem kr_16_27 : ja_code tr_16 27 = js_get jl_r 0 15 30 := rfl
theorem kr_16_30 : ja_code tr_16 30 = js_ic 1 31 := rfl
theorem kr_16_31 : ja_code tr_16 31 = js_ib (fun x y => x - y) 32 := rfl
theorem kr_16_32 : ja_code tr_16 32 = js_goto 39 := rfl
theorem kr_16_35 : ja_code tr_16 35 = js_aload 0 36 := rfl
theorem kr_16_36 : ja_code tr_16 36 = js_get jl_r 0 15 39 := rfl
theorem kr_16_39 : ja_code tr_16 39 = js_put jl_r 0 15 42 := rfl
theorem kr_16_42 : ja_code tr_16 42 = js_aload 0 43 := rfl
theorem kr_16_43 : ja_code tr_16 43 = js_dup 44 := rfl
theorem kr_16_44 : ja_code tr_16 44 = js_get jl_r 0 9 47 := rfl
theorem kr_16_47 : ja_code tr_16 47 = js_ic 1 48 := rfl
theorem kr_16_48 : ja_code tr_16 48 = js_ib (fun x y => x + y) 49 := rfl
theorem kr_16_49 : ja_code tr_16 49 = js_put jl_r 0 9 52 := rfl
theorem kr_16_52 : ja_code tr_16 52 = js_ret := rfl
theorem kr_17_0 : ja_code tr_17 0 = js_aload 0 1 := rfl
theorem kr_17_1 : ja_code tr_17 1 = js_aload 0 2 := rfl
theorem kr_17_2 : ja_code tr_17 2 = js_get jl_r 0 5 5 := rfl
theorem kr_17_5 : ja_code tr_17 5 = js_iload 1 6 := rfl
theorem kr_17_6 : ja_code tr_17 6 = js_ald jl_r 0 7 := rfl
theorem kr_17_7 : ja_code tr_17 7 = js_aload 0 8 := rfl
theorem kr_17_8 : ja_code tr_17 8 = js_get jl_r 0 6 11 := rfl
theorem kr_17_11 : ja_code tr_17 11 = js_iload 1 12 := rfl
theorem kr_17_12 : ja_code tr_17 12 = js_ald jl_r 0 13 := rfl
theorem kr_17_13 : ja_code tr_17 13 = js_cv jl_r 0 7 2 16 := rfl
theorem kr_17_16 : ja_code tr_17 16 = js_lstore 2 17 := rfl
theorem kr_17_17 : ja_code tr_17 17 = js_aload 0 18 := rfl
theorem kr_17_18 : ja_code tr_17 18 = js_get jl_r 0 18 21 := rfl
theorem kr_17_21 : ja_code tr_17 21 = js_ic 1 22 := rfl
theorem kr_17_22 : ja_code tr_17 22 = js_ib (fun x y => x - y) 23 := rfl
theorem kr_17_23 : ja_code tr_17 23 = js_istore 4 25 := rfl
theorem kr_17_25 : ja_code tr_17 25 = js_iload 4 27 := rfl
theorem kr_17_27 : ja_code tr_17 27 = js_if (fun x => x < 0) 86 30 := rfl
theorem kr_17_30 : ja_code tr_17 30 = js_ic 0 31 := rfl
theorem kr_17_31 : ja_code tr_17 31 = js_istore 5 33 := rfl
theorem kr_17_33 : ja_code tr_17 33 = js_iload 5 35 := rfl
theorem kr_17_35 : ja_code tr_17 35 = js_aload 0 36 := rfl
theorem kr_17_36 : ja_code tr_17 36 = js_get jl_r 0 20 39 := rfl
theorem kr_17_39 : ja_code tr_17 39 = js_ic2 (fun x y => y ≤ x) 80 42 := rfl
theorem kr_17_42 : ja_code tr_17 42 = js_aload 0 43 := rfl
theorem kr_17_43 : ja_code tr_17 43 = js_get jl_r 0 22 46 := rfl
theorem kr_17_46 : ja_code tr_17 46 = js_iload 5 48 := rfl
theorem kr_17_48 : ja_code tr_17 48 = js_ald jl_r 0 49 := rfl
theorem kr_17_49 : ja_code tr_17 49 = js_aload 0 50 := rfl
theorem kr_17_50 : ja_code tr_17 50 = js_get jl_r 0 19 53 := rfl
theorem kr_17_53 : ja_code tr_17 53 = js_iload 4 55 := rfl
theorem kr_17_55 : ja_code tr_17 55 = js_ald jl_r 0 56 := rfl
theorem kr_17_56 : ja_code tr_17 56 = js_ic2 (fun x y => x = y) 59 74 := rfl
theorem kr_17_59 : ja_code tr_17 59 = js_aload 0 60 := rfl
theorem kr_17_60 : ja_code tr_17 60 = js_get jl_r 0 29 63 := rfl
theorem kr_17_63 : ja_code tr_17 63 = js_iload 5 65 := rfl
theorem kr_17_65 : ja_code tr_17 65 = js_lald jl_r 66 := rfl
theorem kr_17_66 : ja_code tr_17 66 = js_lload 2 67 := rfl
theorem kr_17_67 : ja_code tr_17 67 = js_lcmp 68 := rfl
theorem kr_17_68 : ja_code tr_17 68 = js_if (fun x => x = 0) 71 74 := rfl
theorem kr_17_71 : ja_code tr_17 71 = js_iload 5 73 := rfl
theorem kr_17_73 : ja_code tr_17 73 = js_iret := rfl
theorem kr_17_74 : ja_code tr_17 74 = js_iinc 5 1 77 := rfl
theorem kr_17_77 : ja_code tr_17 77 = js_goto 33 := rfl
theorem kr_17_80 : ja_code tr_17 80 = js_iinc 4 (-1) 83 := rfl
theorem kr_17_83 : ja_code tr_17 83 = js_goto 25 := rfl
theorem kr_17_86 : ja_code tr_17 86 = js_ic (-1) 87 := rfl
theorem kr_17_87 : ja_code tr_17 87 = js_iret := rfl
theorem kr_18_0 : ja_code tr_18 0 = js_aload 0 1 := rfl
theorem kr_18_1 : ja_code tr_18 1 = js_get jl_r 0 4 4 := rfl
theorem kr_18_4 : ja_code tr_18 4 = js_iload 1 5 := rfl
theorem kr_18_5 : ja_code tr_18 5 = js_ald jl_r 0 6 := rfl
theorem kr_18_6 : ja_code tr_18 6 = js_ic 1 7 := rfl
theorem kr_18_7 : ja_code tr_18 7 = js_ic2 (fun x y => x = y) 10 18 := rfl
theorem kr_18_10 : ja_code tr_18 10 = js_aload 0 11 := rfl
theorem kr_18_11 : ja_code tr_18 11 = js_iload 1 12 := rfl
theorem kr_18_12 : ja_code tr_18 12 = js_cv jl_r 0 17 1 15 := rfl
theorem kr_18_15 : ja_code tr_18 15 = js_goto 19 := rfl
theorem kr_18_18 : ja_code tr_18 18 = js_ic (-1) 19 := rfl
theorem kr_18_19 : ja_code tr_18 19 = js_istore 2 20 := rfl
theorem kr_18_20 : ja_code tr_18 20 = js_iload 2 21 := rfl
theorem kr_18_21 : ja_code tr_18 21 = js_if (fun x => x < 0) 38 24 := rfl
theorem kr_18_24 : ja_code tr_18 24 = js_aload 0 25 := rfl
theorem kr_18_25 : ja_code tr_18 25 = js_get jl_r 0 24 28 := rfl
theorem kr_18_28 : ja_code tr_18 28 = js_iload 2 29 := rfl
theorem kr_18_29 : ja_code tr_18 29 = js_ald jl_r 0 30 := rfl
theorem kr_18_30 : ja_code tr_18 30 = js_ic 1 31 := rfl
theorem kr_18_31 : ja_code tr_18 31 = js_ic2 (fun x y => x = y) 34 38 := rfl
theorem kr_18_34 : ja_code tr_18 34 = js_ic 1 35 := rfl
theorem kr_18_35 : ja_code tr_18 35 = js_goto 39 := rfl
theorem kr_18_38 : ja_code tr_18 38 = js_ic 0 39 := rfl
theorem kr_18_39 : ja_code tr_18 39 = js_zret := rfl
theorem kr_19_0 : ja_code tr_19 0 = js_aload 0 1 := rfl
theorem kr_19_1 : ja_code tr_19 1 = js_get jl_r 0 4 4 := rfl
theorem kr_19_4 : ja_code tr_19 4 = js_iload 1 5 := rfl
theorem kr_19_5 : ja_code tr_19 5 = js_ald jl_r 0 6 := rfl
theorem kr_19_6 : ja_code tr_19 6 = js_ic 5 7 := rfl
theorem kr_19_7 : ja_code tr_19 7 = js_ic2 (fun x y => x = y) 40 10 := rfl
theorem kr_19_10 : ja_code tr_19 10 = js_aload 0 11 := rfl
theorem kr_19_11 : ja_code tr_19 11 = js_get jl_r 0 4 14 := rfl
theorem kr_19_14 : ja_code tr_19 14 = js_iload 1 15 := rfl
theorem kr_19_15 : ja_code tr_19 15 = js_ald jl_r 0 16 := rfl
theorem kr_19_16 : ja_code tr_19 16 = js_ic 6 18 := rfl
theorem kr_19_18 : ja_code tr_19 18 = js_ic2 (fun x y => x = y) 40 21 := rfl
theorem kr_19_21 : ja_code tr_19 21 = js_aload 0 22 := rfl
theorem kr_19_22 : ja_code tr_19 22 = js_get jl_r 0 4 25 := rfl
theorem kr_19_25 : ja_code tr_19 25 = js_iload 1 26 := rfl
theorem kr_19_26 : ja_code tr_19 26 = js_ald jl_r 0 27 := rfl
theorem kr_19_27 : ja_code tr_19 27 = js_ic 7 29 := rfl
theorem kr_19_29 : ja_code tr_19 29 = js_ic2 (fun x y => x = y) 40 32 := rfl
theorem kr_19_32 : ja_code tr_19 32 = js_aload 0 33 := rfl
theorem kr_19_33 : ja_code tr_19 33 = js_iload 1 34 := rfl
theorem kr_19_34 : ja_code tr_19 34 = js_cv jl_r 0 18 1 37 := rfl
theorem kr_19_37 : ja_code tr_19 37 = js_if (fun x => x = 0) 44 40 := rfl
theorem kr_19_40 : ja_code tr_19 40 = js_ic 1 41 := rfl
theorem kr_19_41 : ja_code tr_19 41 = js_goto 45 := rfl
theorem kr_19_44 : ja_code tr_19 44 = js_ic 0 45 := rfl
theorem kr_19_45 : ja_code tr_19 45 = js_zret := rfl
theorem kr_20_0 : ja_code tr_20 0 = js_aload 0 1 := rfl
theorem kr_20_1 : ja_code tr_20 1 = js_iload 1 2 := rfl
theorem kr_20_2 : ja_code tr_20 2 = js_cv jl_r 0 17 1 5 := rfl
theorem kr_20_5 : ja_code tr_20 5 = js_istore 2 6 := rfl
theorem kr_20_6 : ja_code tr_20 6 = js_iload 2 7 := rfl
theorem kr_20_7 : ja_code tr_20 7 = js_if (fun x => x < 0) 30 10 := rfl
theorem kr_20_10 : ja_code tr_20 10 = js_aload 0 11 := rfl
theorem kr_20_11 : ja_code tr_20 11 = js_get jl_r 0 22 14 := rfl
theorem kr_20_14 : ja_code tr_20 14 = js_iload 2 15 := rfl
theorem kr_20_15 : ja_code tr_20 15 = js_ald jl_r 0 16 := rfl
theorem kr_20_16 : ja_code tr_20 16 = js_aload 0 17 := rfl
theorem kr_20_17 : ja_code tr_20 17 = js_get jl_r 0 19 20 := rfl
theorem kr_20_20 : ja_code tr_20 20 = js_aload 0 21 := rfl
theorem kr_20_21 : ja_code tr_20 21 = js_get jl_r 0 18 24 := rfl
theorem kr_20_24 : ja_code tr_20 24 = js_ic 1 25 := rfl
theorem kr_20_25 : ja_code tr_20 25 = js_ib (fun x y => x - y) 26 := rfl
theorem kr_20_26 : ja_code tr_20 26 = js_ald jl_r 0 27 := rfl
theorem kr_20_27 : ja_code tr_20 27 = js_ic2 (fun x y => x = y) 34 30 := rfl
theorem kr_20_30 : ja_code tr_20 30 = js_ic 1 31 := rfl
theorem kr_20_31 : ja_code tr_20 31 = js_goto 35 := rfl
theorem kr_20_34 : ja_code tr_20 34 = js_ic 0 35 := rfl
theorem kr_20_35 : ja_code tr_20 35 = js_zret := rfl
theorem kr_21_0 : ja_code tr_21 0 = js_aload 0 1 := rfl
theorem kr_21_1 : ja_code tr_21 1 = js_get jl_r 0 16 4 := rfl
theorem kr_21_4 : ja_code tr_21 4 = js_if (fun x => x = 0) 7 18 := rfl
theorem kr_21_7 : ja_code tr_21 7 = js_aload 0 8 := rfl
theorem kr_21_8 : ja_code tr_21 8 = js_aload 0 9 := rfl
theorem kr_21_9 : ja_code tr_21 9 = js_get jl_r 0 9 12 := rfl
theorem kr_21_12 : ja_code tr_21 12 = js_cv jl_r 0 19 1 15 := rfl
theorem kr_21_15 : ja_code tr_21 15 = js_if (fun x => x = 0) 18 31 := rfl
theorem kr_21_18 : ja_code tr_21 18 = js_aload 0 19 := rfl
theorem kr_21_19 : ja_code tr_21 19 = js_get jl_r 0 16 22 := rfl
theorem kr_21_22 : ja_code tr_21 22 = js_if (fun x => x = 0) 25 29 := rfl
theorem kr_21_25 : ja_code tr_21 25 = js_aload 0 26 := rfl
theorem kr_21_26 : ja_code tr_21 26 = js_cv jl_r 0 12 0 29 := rfl
theorem kr_21_29 : ja_code tr_21 29 = js_ic (-1) 30 := rfl
theorem kr_21_30 : ja_code tr_21 30 = js_iret := rfl
theorem kr_21_31 : ja_code tr_21 31 = js_aload 0 32 := rfl
theorem kr_21_32 : ja_code tr_21 32 = js_get jl_r 0 4 35 := rfl
theorem kr_21_35 : ja_code tr_21 35 = js_aload 0 36 := rfl
theorem kr_21_36 : ja_code tr_21 36 = js_get jl_r 0 9 39 := rfl
theorem kr_21_39 : ja_code tr_21 39 = js_ald jl_r 0 40 := rfl
theorem kr_21_40 : ja_code tr_21 40 = js_istore 1 41 := rfl
theorem kr_21_41 : ja_code tr_21 41 = js_iload 1 42 := rfl
theorem kr_21_42 : ja_code tr_21 42 = js_ic 5 43 := rfl
theorem kr_21_43 : ja_code tr_21 43 = js_ic2 (fun x y => x = y) 46 51 := rfl
theorem kr_21_46 : ja_code tr_21 46 = js_ic 105 48 := rfl
theorem kr_21_48 : ja_code tr_21 48 = js_goto 85 := rfl
theorem kr_21_51 : ja_code tr_21 51 = js_iload 1 52 := rfl
theorem kr_21_52 : ja_code tr_21 52 = js_ic 6 54 := rfl
theorem kr_21_54 : ja_code tr_21 54 = js_ic2 (fun x y => x = y) 57 62 := rfl
theorem kr_21_57 : ja_code tr_21 57 = js_ic 99 59 := rfl
theorem kr_21_59 : ja_code tr_21 59 = js_goto 85 := rfl
theorem kr_21_62 : ja_code tr_21 62 = js_iload 1 63 := rfl
theorem kr_21_63 : ja_code tr_21 63 = js_ic 7 65 := rfl
theorem kr_21_65 : ja_code tr_21 65 = js_ic2 (fun x y => x = y) 68 73 := rfl
theorem kr_21_68 : ja_code tr_21 68 = js_ic 118 70 := rfl
theorem kr_21_70 : ja_code tr_21 70 = js_goto 85 := rfl
theorem kr_21_73 : ja_code tr_21 73 = js_ic 1000 76 := rfl
theorem kr_21_76 : ja_code tr_21 76 = js_aload 0 77 := rfl
theorem kr_21_77 : ja_code tr_21 77 = js_aload 0 78 := rfl
theorem kr_21_78 : ja_code tr_21 78 = js_get jl_r 0 9 81 := rfl
theorem kr_21_81 : ja_code tr_21 81 = js_cv jl_r 0 17 1 84 := rfl
theorem kr_21_84 : ja_code tr_21 84 = js_ib (fun x y => x + y) 85 := rfl
theorem kr_21_85 : ja_code tr_21 85 = js_istore 2 86 := rfl
theorem kr_21_86 : ja_code tr_21 86 = js_iload 1 87 := rfl
theorem kr_21_87 : ja_code tr_21 87 = js_ic 1 88 := rfl
theorem kr_21_88 : ja_code tr_21 88 = js_ic2 (fun x y => x = y) 91 115 := rfl
theorem kr_21_91 : ja_code tr_21 91 = js_aload 0 92 := rfl
theorem kr_21_92 : ja_code tr_21 92 = js_get jl_r 0 7 95 := rfl
theorem kr_21_95 : ja_code tr_21 95 = js_aload 0 96 := rfl
theorem kr_21_96 : ja_code tr_21 96 = js_get jl_r 0 9 99 := rfl
theorem kr_21_99 : ja_code tr_21 99 = js_ic 1 100 := rfl
theorem kr_21_100 : ja_code tr_21 100 = js_ast jl_r 101 := rfl
theorem kr_21_101 : ja_code tr_21 101 = js_aload 0 102 := rfl
theorem kr_21_102 : ja_code tr_21 102 = js_get jl_r 0 8 105 := rfl
theorem kr_21_105 : ja_code tr_21 105 = js_aload 0 106 := rfl
theorem kr_21_106 : ja_code tr_21 106 = js_get jl_r 0 9 109 := rfl
theorem kr_21_109 : ja_code tr_21 109 = js_iload 2 110 := rfl
theorem kr_21_110 : ja_code tr_21 110 = js_ic 1000 113 := rfl
theorem kr_21_113 : ja_code tr_21 113 = js_ib (fun x y => x - y) 114 := rfl
theorem kr_21_114 : ja_code tr_21 114 = js_ast jl_r 115 := rfl
theorem kr_21_115 : ja_code tr_21 115 = js_aload 0 116 := rfl
theorem kr_21_116 : ja_code tr_21 116 = js_dup 117 := rfl
theorem kr_21_117 : ja_code tr_21 117 = js_get jl_r 0 9 120 := rfl
theorem kr_21_120 : ja_code tr_21 120 = js_ic 1 121 := rfl
theorem kr_21_121 : ja_code tr_21 121 = js_ib (fun x y => x + y) 122 := rfl
theorem kr_21_122 : ja_code tr_21 122 = js_put jl_r 0 9 125 := rfl
theorem kr_21_125 : ja_code tr_21 125 = js_iload 2 126 := rfl
theorem kr_21_126 : ja_code tr_21 126 = js_iret := rfl
theorem kr_22_0 : ja_code tr_22 0 = js_aload 0 1 := rfl
theorem kr_22_1 : ja_code tr_22 1 = js_get jl_r 0 19 4 := rfl
theorem kr_22_4 : ja_code tr_22 4 = js_aload 0 5 := rfl
theorem kr_22_5 : ja_code tr_22 5 = js_get jl_r 0 18 8 := rfl
theorem kr_22_8 : ja_code tr_22 8 = js_iload 1 9 := rfl
theorem kr_22_9 : ja_code tr_22 9 = js_ast jl_r 10 := rfl
theorem kr_22_10 : ja_code tr_22 10 = js_aload 0 11 := rfl
theorem kr_22_11 : ja_code tr_22 11 = js_dup 12 := rfl
theorem kr_22_12 : ja_code tr_22 12 = js_get jl_r 0 18 15 := rfl
theorem kr_22_15 : ja_code tr_22 15 = js_ic 1 16 := rfl
theorem kr_22_16 : ja_code tr_22 16 = js_ib (fun x y => x + y) 17 := rfl
theorem kr_22_17 : ja_code tr_22 17 = js_put jl_r 0 18 20 := rfl
theorem kr_22_20 : ja_code tr_22 20 = js_ret := rfl
theorem kr_23_0 : ja_code tr_23 0 = js_aload 0 1 := rfl
theorem kr_23_1 : ja_code tr_23 1 = js_dup 2 := rfl
theorem kr_23_2 : ja_code tr_23 2 = js_get jl_r 0 17 5 := rfl
theorem kr_23_5 : ja_code tr_23 5 = js_ic 1 6 := rfl
theorem kr_23_6 : ja_code tr_23 6 = js_ib (fun x y => x + y) 7 := rfl
theorem kr_23_7 : ja_code tr_23 7 = js_put jl_r 0 17 10 := rfl
theorem kr_23_10 : ja_code tr_23 10 = js_aload 0 11 := rfl
theorem kr_23_11 : ja_code tr_23 11 = js_get jl_r 0 17 14 := rfl
theorem kr_23_14 : ja_code tr_23 14 = js_ic 1 15 := rfl
theorem kr_23_15 : ja_code tr_23 15 = js_ib (fun x y => x - y) 16 := rfl
theorem kr_23_16 : ja_code tr_23 16 = js_iret := rfl
theorem kr_24_0 : ja_code tr_24 0 = js_aload 0 1 := rfl
theorem kr_24_1 : ja_code tr_24 1 = js_get jl_r 0 31 4 := rfl
theorem kr_24_4 : ja_code tr_24 4 = js_aload 0 5 := rfl
theorem kr_24_5 : ja_code tr_24 5 = js_get jl_r 0 30 8 := rfl
theorem kr_24_8 : ja_code tr_24 8 = js_iload 1 9 := rfl
theorem kr_24_9 : ja_code tr_24 9 = js_ast jl_r 10 := rfl
theorem kr_24_10 : ja_code tr_24 10 = js_aload 0 11 := rfl
theorem kr_24_11 : ja_code tr_24 11 = js_dup 12 := rfl
theorem kr_24_12 : ja_code tr_24 12 = js_get jl_r 0 30 15 := rfl
theorem kr_24_15 : ja_code tr_24 15 = js_ic 1 16 := rfl
theorem kr_24_16 : ja_code tr_24 16 = js_ib (fun x y => x + y) 17 := rfl
theorem kr_24_17 : ja_code tr_24 17 = js_put jl_r 0 30 20 := rfl
theorem kr_24_20 : ja_code tr_24 20 = js_ret := rfl
theorem kr_25_0 : ja_code tr_25 0 = js_iload 1 1 := rfl
theorem kr_25_1 : ja_code tr_25 1 = js_ic 1000 4 := rfl
theorem kr_25_4 : ja_code tr_25 4 = js_ic2 (fun x y => y ≤ x) 13 7 := rfl
theorem kr_25_7 : ja_code tr_25 7 = js_aload 0 8 := rfl
theorem kr_25_8 : ja_code tr_25 8 = js_iload 1 9 := rfl
theorem kr_25_9 : ja_code tr_25 9 = js_cv jl_r 0 24 1 12 := rfl
theorem kr_25_12 : ja_code tr_25 12 = js_ret := rfl
theorem kr_25_13 : ja_code tr_25 13 = js_iload 1 14 := rfl
theorem kr_25_14 : ja_code tr_25 14 = js_ic 1000 17 := rfl
theorem kr_25_17 : ja_code tr_25 17 = js_ib (fun x y => x - y) 18 := rfl
theorem kr_25_18 : ja_code tr_25 18 = js_istore 2 19 := rfl
theorem kr_25_19 : ja_code tr_25 19 = js_ic 100 21 := rfl
theorem kr_25_21 : ja_code tr_25 21 = js_istore 3 22 := rfl
theorem kr_25_22 : ja_code tr_25 22 = js_iload 3 23 := rfl
theorem kr_25_23 : ja_code tr_25 23 = js_if (fun x => x ≤ 0) 57 26 := rfl
theorem kr_25_26 : ja_code tr_25 26 = js_iload 2 27 := rfl
theorem kr_25_27 : ja_code tr_25 27 = js_iload 3 28 := rfl
theorem kr_25_28 : ja_code tr_25 28 = js_ic2 (fun x y => y ≤ x) 36 31 := rfl
theorem kr_25_31 : ja_code tr_25 31 = js_iload 3 32 := rfl
theorem kr_25_32 : ja_code tr_25 32 = js_ic 1 33 := rfl
theorem kr_25_33 : ja_code tr_25 33 = js_ic2 (fun x y => x = y) 36 49 := rfl
theorem kr_25_36 : ja_code tr_25 36 = js_aload 0 37 := rfl
theorem kr_25_37 : ja_code tr_25 37 = js_ic 48 39 := rfl
theorem kr_25_39 : ja_code tr_25 39 = js_iload 2 40 := rfl
theorem kr_25_40 : ja_code tr_25 40 = js_iload 3 41 := rfl
theorem kr_25_41 : ja_code tr_25 41 = js_idiv 42 := rfl
theorem kr_25_42 : ja_code tr_25 42 = js_ic 10 44 := rfl
theorem kr_25_44 : ja_code tr_25 44 = js_irem 45 := rfl
theorem kr_25_45 : ja_code tr_25 45 = js_ib (fun x y => x + y) 46 := rfl
theorem kr_25_46 : ja_code tr_25 46 = js_cv jl_r 0 24 1 49 := rfl
theorem kr_25_49 : ja_code tr_25 49 = js_iload 3 50 := rfl
theorem kr_25_50 : ja_code tr_25 50 = js_ic 10 52 := rfl
theorem kr_25_52 : ja_code tr_25 52 = js_idiv 53 := rfl
theorem kr_25_53 : ja_code tr_25 53 = js_istore 3 54 := rfl
theorem kr_25_54 : ja_code tr_25 54 = js_goto 22 := rfl
theorem kr_25_57 : ja_code tr_25 57 = js_aload 0 58 := rfl
theorem kr_25_58 : ja_code tr_25 58 = js_ic 46 60 := rfl
theorem kr_25_60 : ja_code tr_25 60 = js_cv jl_r 0 24 1 63 := rfl
theorem kr_25_63 : ja_code tr_25 63 = js_ret := rfl
theorem kr_26_0 : ja_code tr_26 0 = js_aload 0 1 := rfl
theorem kr_26_1 : ja_code tr_26 1 = js_get jl_r 0 39 4 := rfl
theorem kr_26_4 : ja_code tr_26 4 = js_aload 0 5 := rfl
theorem kr_26_5 : ja_code tr_26 5 = js_get jl_r 0 38 8 := rfl
theorem kr_26_8 : ja_code tr_26 8 = js_iload 1 9 := rfl
theorem kr_26_9 : ja_code tr_26 9 = js_ast jl_r 10 := rfl
theorem kr_26_10 : ja_code tr_26 10 = js_aload 0 11 := rfl
theorem kr_26_11 : ja_code tr_26 11 = js_dup 12 := rfl
theorem kr_26_12 : ja_code tr_26 12 = js_get jl_r 0 38 15 := rfl
theorem kr_26_15 : ja_code tr_26 15 = js_ic 1 16 := rfl
theorem kr_26_16 : ja_code tr_26 16 = js_ib (fun x y => x + y) 17 := rfl
theorem kr_26_17 : ja_code tr_26 17 = js_put jl_r 0 38 20 := rfl
theorem kr_26_20 : ja_code tr_26 20 = js_ret := rfl
theorem kr_27_0 : ja_code tr_27 0 = js_iload 1 1 := rfl
theorem kr_27_1 : ja_code tr_27 1 = js_ic 9 3 := rfl
theorem kr_27_3 : ja_code tr_27 3 = js_ic2 (fun x y => x ≤ y) 12 6 := rfl
theorem kr_27_6 : ja_code tr_27 6 = js_aload 0 7 := rfl
theorem kr_27_7 : ja_code tr_27 7 = js_iload 1 8 := rfl
theorem kr_27_8 : ja_code tr_27 8 = js_cv jl_r 0 28 1 11 := rfl
theorem kr_27_11 : ja_code tr_27 11 = js_ret := rfl
theorem kr_27_12 : ja_code tr_27 12 = js_aload 0 13 := rfl
theorem kr_27_13 : ja_code tr_27 13 = js_ic 48 15 := rfl
theorem kr_27_15 : ja_code tr_27 15 = js_iload 1 16 := rfl
theorem kr_27_16 : ja_code tr_27 16 = js_ib (fun x y => x + y) 17 := rfl
theorem kr_27_17 : ja_code tr_27 17 = js_cv jl_r 0 26 1 20 := rfl
theorem kr_27_20 : ja_code tr_27 20 = js_ret := rfl
theorem kr_28_0 : ja_code tr_28 0 = js_iload 1 1 := rfl
theorem kr_28_1 : ja_code tr_28 1 = js_ic 99 3 := rfl
theorem kr_28_3 : ja_code tr_28 3 = js_ic2 (fun x y => x ≤ y) 17 6 := rfl
theorem kr_28_6 : ja_code tr_28 6 = js_aload 0 7 := rfl
theorem kr_28_7 : ja_code tr_28 7 = js_ic 48 9 := rfl
theorem kr_28_9 : ja_code tr_28 9 = js_iload 1 10 := rfl
theorem kr_28_10 : ja_code tr_28 10 = js_ic 100 12 := rfl
theorem kr_28_12 : ja_code tr_28 12 = js_idiv 13 := rfl
theorem kr_28_13 : ja_code tr_28 13 = js_ib (fun x y => x + y) 14 := rfl
theorem kr_28_14 : ja_code tr_28 14 = js_cv jl_r 0 26 1 17 := rfl
theorem kr_28_17 : ja_code tr_28 17 = js_aload 0 18 := rfl
theorem kr_28_18 : ja_code tr_28 18 = js_ic 48 20 := rfl
theorem kr_28_20 : ja_code tr_28 20 = js_iload 1 21 := rfl
theorem kr_28_21 : ja_code tr_28 21 = js_ic 10 23 := rfl
theorem kr_28_23 : ja_code tr_28 23 = js_idiv 24 := rfl
theorem kr_28_24 : ja_code tr_28 24 = js_ic 10 26 := rfl
theorem kr_28_26 : ja_code tr_28 26 = js_irem 27 := rfl
theorem kr_28_27 : ja_code tr_28 27 = js_ib (fun x y => x + y) 28 := rfl
theorem kr_28_28 : ja_code tr_28 28 = js_cv jl_r 0 26 1 31 := rfl
theorem kr_28_31 : ja_code tr_28 31 = js_aload 0 32 := rfl
theorem kr_28_32 : ja_code tr_28 32 = js_ic 48 34 := rfl
theorem kr_28_34 : ja_code tr_28 34 = js_iload 1 35 := rfl
theorem kr_28_35 : ja_code tr_28 35 = js_ic 10 37 := rfl
theorem kr_28_37 : ja_code tr_28 37 = js_irem 38 := rfl
theorem kr_28_38 : ja_code tr_28 38 = js_ib (fun x y => x + y) 39 := rfl
theorem kr_28_39 : ja_code tr_28 39 = js_cv jl_r 0 26 1 42 := rfl
theorem kr_28_42 : ja_code tr_28 42 = js_ret := rfl
theorem kr_29_0 : ja_code tr_29 0 = js_ic 0 1 := rfl
theorem kr_29_1 : ja_code tr_29 1 = js_istore 2 2 := rfl
theorem kr_29_2 : ja_code tr_29 2 = js_iload 2 3 := rfl
theorem kr_29_3 : ja_code tr_29 3 = js_aload 0 4 := rfl
theorem kr_29_4 : ja_code tr_29 4 = js_get jl_r 0 6 7 := rfl
theorem kr_29_7 : ja_code tr_29 7 = js_iload 1 8 := rfl
theorem kr_29_8 : ja_code tr_29 8 = js_ald jl_r 0 9 := rfl
theorem kr_29_9 : ja_code tr_29 9 = js_ic2 (fun x y => y ≤ x) 35 12 := rfl
theorem kr_29_12 : ja_code tr_29 12 = js_aload 0 13 := rfl
theorem kr_29_13 : ja_code tr_29 13 = js_aload 0 14 := rfl
theorem kr_29_14 : ja_code tr_29 14 = js_get jl_r 0 1 17 := rfl
theorem kr_29_17 : ja_code tr_29 17 = js_aload 0 18 := rfl
theorem kr_29_18 : ja_code tr_29 18 = js_get jl_r 0 5 21 := rfl
theorem kr_29_21 : ja_code tr_29 21 = js_iload 1 22 := rfl
theorem kr_29_22 : ja_code tr_29 22 = js_ald jl_r 0 23 := rfl
theorem kr_29_23 : ja_code tr_29 23 = js_iload 2 24 := rfl
theorem kr_29_24 : ja_code tr_29 24 = js_ib (fun x y => x + y) 25 := rfl
theorem kr_29_25 : ja_code tr_29 25 = js_ald jl_r 0 26 := rfl
theorem kr_29_26 : ja_code tr_29 26 = js_cv jl_r 0 26 1 29 := rfl
theorem kr_29_29 : ja_code tr_29 29 = js_iinc 2 1 32 := rfl
theorem kr_29_32 : ja_code tr_29 32 = js_goto 2 := rfl
theorem kr_29_35 : ja_code tr_29 35 = js_ret := rfl
theorem kr_30_0 : ja_code tr_30 0 = js_ic 0 1 := rfl
theorem kr_30_1 : ja_code tr_30 1 = js_istore 1 2 := rfl
theorem kr_30_2 : ja_code tr_30 2 = js_iload 1 3 := rfl
theorem kr_30_3 : ja_code tr_30 3 = js_aload 0 4 := rfl
theorem kr_30_4 : ja_code tr_30 4 = js_get jl_r 0 30 7 := rfl
theorem kr_30_7 : ja_code tr_30 7 = js_ic2 (fun x y => y ≤ x) 26 10 := rfl
theorem kr_30_10 : ja_code tr_30 10 = js_aload 0 11 := rfl
theorem kr_30_11 : ja_code tr_30 11 = js_aload 0 12 := rfl
theorem kr_30_12 : ja_code tr_30 12 = js_get jl_r 0 31 15 := rfl
theorem kr_30_15 : ja_code tr_30 15 = js_iload 1 16 := rfl
theorem kr_30_16 : ja_code tr_30 16 = js_ald jl_r 0 17 := rfl
theorem kr_30_17 : ja_code tr_30 17 = js_cv jl_r 0 26 1 20 := rfl
theorem kr_30_20 : ja_code tr_30 20 = js_iinc 1 1 23 := rfl
theorem kr_30_23 : ja_code tr_30 23 = js_goto 2 := rfl
theorem kr_30_26 : ja_code tr_30 26 = js_ret := rfl
theorem kr_31_0 : ja_code tr_31 0 = js_aload 0 1 := rfl
theorem kr_31_1 : ja_code tr_31 1 = js_get jl_r 0 21 4 := rfl
theorem kr_31_4 : ja_code tr_31 4 = js_aload 0 5 := rfl
theorem kr_31_5 : ja_code tr_31 5 = js_get jl_r 0 20 8 := rfl
theorem kr_31_8 : ja_code tr_31 8 = js_aload 0 9 := rfl
theorem kr_31_9 : ja_code tr_31 9 = js_get jl_r 0 33 12 := rfl
theorem kr_31_12 : ja_code tr_31 12 = js_ast jl_r 13 := rfl
theorem kr_31_13 : ja_code tr_31 13 = js_aload 0 14 := rfl
theorem kr_31_14 : ja_code tr_31 14 = js_get jl_r 0 29 17 := rfl
theorem kr_31_17 : ja_code tr_31 17 = js_aload 0 18 := rfl
theorem kr_31_18 : ja_code tr_31 18 = js_get jl_r 0 20 21 := rfl
theorem kr_31_21 : ja_code tr_31 21 = js_aload 0 22 := rfl
theorem kr_31_22 : ja_code tr_31 22 = js_aload 0 23 := rfl
theorem kr_31_23 : ja_code tr_31 23 = js_get jl_r 0 5 26 := rfl
theorem kr_31_26 : ja_code tr_31 26 = js_aload 0 27 := rfl
theorem kr_31_27 : ja_code tr_31 27 = js_get jl_r 0 33 30 := rfl
theorem kr_31_30 : ja_code tr_31 30 = js_ald jl_r 0 31 := rfl
theorem kr_31_31 : ja_code tr_31 31 = js_aload 0 32 := rfl
theorem kr_31_32 : ja_code tr_31 32 = js_get jl_r 0 6 35 := rfl
theorem kr_31_35 : ja_code tr_31 35 = js_aload 0 36 := rfl
theorem kr_31_36 : ja_code tr_31 36 = js_get jl_r 0 33 39 := rfl
theorem kr_31_39 : ja_code tr_31 39 = js_ald jl_r 0 40 := rfl
theorem kr_31_40 : ja_code tr_31 40 = js_cv jl_r 0 7 2 43 := rfl
theorem kr_31_43 : ja_code tr_31 43 = js_last jl_r 44 := rfl
theorem kr_31_44 : ja_code tr_31 44 = js_aload 0 45 := rfl
theorem kr_31_45 : ja_code tr_31 45 = js_get jl_r 0 22 48 := rfl
theorem kr_31_48 : ja_code tr_31 48 = js_aload 0 49 := rfl
theorem kr_31_49 : ja_code tr_31 49 = js_get jl_r 0 20 52 := rfl
theorem kr_31_52 : ja_code tr_31 52 = js_aload 0 53 := rfl
theorem kr_31_53 : ja_code tr_31 53 = js_get jl_r 0 19 56 := rfl
theorem kr_31_56 : ja_code tr_31 56 = js_aload 0 57 := rfl
theorem kr_31_57 : ja_code tr_31 57 = js_get jl_r 0 18 60 := rfl
theorem kr_31_60 : ja_code tr_31 60 = js_ic 1 61 := rfl
theorem kr_31_61 : ja_code tr_31 61 = js_ib (fun x y => x - y) 62 := rfl
theorem kr_31_62 : ja_code tr_31 62 = js_ald jl_r 0 63 := rfl
theorem kr_31_63 : ja_code tr_31 63 = js_ast jl_r 64 := rfl
theorem kr_31_64 : ja_code tr_31 64 = js_aload 0 65 := rfl
theorem kr_31_65 : ja_code tr_31 65 = js_get jl_r 0 23 68 := rfl
theorem kr_31_68 : ja_code tr_31 68 = js_aload 0 69 := rfl
theorem kr_31_69 : ja_code tr_31 69 = js_get jl_r 0 20 72 := rfl
theorem kr_31_72 : ja_code tr_31 72 = js_aload 0 73 := rfl
theorem kr_31_73 : ja_code tr_31 73 = js_get jl_r 0 18 76 := rfl
theorem kr_31_76 : ja_code tr_31 76 = js_ast jl_r 77 := rfl
theorem kr_31_77 : ja_code tr_31 77 = js_aload 0 78 := rfl
theorem kr_31_78 : ja_code tr_31 78 = js_get jl_r 0 24 81 := rfl
theorem kr_31_81 : ja_code tr_31 81 = js_aload 0 82 := rfl
theorem kr_31_82 : ja_code tr_31 82 = js_get jl_r 0 20 85 := rfl
theorem kr_31_85 : ja_code tr_31 85 = js_iload 1 86 := rfl
theorem kr_31_86 : ja_code tr_31 86 = js_if (fun x => x = 0) 93 89 := rfl
theorem kr_31_89 : ja_code tr_31 89 = js_ic 1 90 := rfl
theorem kr_31_90 : ja_code tr_31 90 = js_goto 112 := rfl
theorem kr_31_93 : ja_code tr_31 93 = js_aload 0 94 := rfl
theorem kr_31_94 : ja_code tr_31 94 = js_get jl_r 0 31 97 := rfl
theorem kr_31_97 : ja_code tr_31 97 = js_aload 0 98 := rfl
theorem kr_31_98 : ja_code tr_31 98 = js_get jl_r 0 32 101 := rfl
theorem kr_31_101 : ja_code tr_31 101 = js_ald jl_r 0 102 := rfl
theorem kr_31_102 : ja_code tr_31 102 = js_ic 40 104 := rfl
theorem kr_31_104 : ja_code tr_31 104 = js_ic2 (fun x y => x = y) 107 111 := rfl
theorem kr_31_107 : ja_code tr_31 107 = js_ic 2 108 := rfl
theorem kr_31_108 : ja_code tr_31 108 = js_goto 112 := rfl
theorem kr_31_111 : ja_code tr_31 111 = js_ic 0 112 := rfl
theorem kr_31_112 : ja_code tr_31 112 = js_ast jl_r 113 := rfl
theorem kr_31_113 : ja_code tr_31 113 = js_aload 0 114 := rfl
theorem kr_31_114 : ja_code tr_31 114 = js_get jl_r 0 25 117 := rfl
theorem kr_31_117 : ja_code tr_31 117 = js_aload 0 118 := rfl
theorem kr_31_118 : ja_code tr_31 118 = js_get jl_r 0 20 121 := rfl
theorem kr_31_121 : ja_code tr_31 121 = js_aload 0 122 := rfl
theorem kr_31_122 : ja_code tr_31 122 = js_get jl_r 0 27 125 := rfl
theorem kr_31_125 : ja_code tr_31 125 = js_ast jl_r 126 := rfl
theorem kr_31_126 : ja_code tr_31 126 = js_aload 0 127 := rfl
theorem kr_31_127 : ja_code tr_31 127 = js_get jl_r 0 26 130 := rfl
theorem kr_31_130 : ja_code tr_31 130 = js_aload 0 131 := rfl
theorem kr_31_131 : ja_code tr_31 131 = js_get jl_r 0 20 134 := rfl
theorem kr_31_134 : ja_code tr_31 134 = js_aload 0 135 := rfl
theorem kr_31_135 : ja_code tr_31 135 = js_get jl_r 0 30 138 := rfl
theorem kr_31_138 : ja_code tr_31 138 = js_aload 0 139 := rfl
theorem kr_31_139 : ja_code tr_31 139 = js_get jl_r 0 32 142 := rfl
theorem kr_31_142 : ja_code tr_31 142 = js_ib (fun x y => x - y) 143 := rfl
theorem kr_31_143 : ja_code tr_31 143 = js_ast jl_r 144 := rfl
theorem kr_31_144 : ja_code tr_31 144 = js_aload 0 145 := rfl
theorem kr_31_145 : ja_code tr_31 145 = js_get jl_r 0 32 148 := rfl
theorem kr_31_148 : ja_code tr_31 148 = js_istore 2 149 := rfl
theorem kr_31_149 : ja_code tr_31 149 = js_iload 2 150 := rfl
theorem kr_31_150 : ja_code tr_31 150 = js_aload 0 151 := rfl
theorem kr_31_151 : ja_code tr_31 151 = js_get jl_r 0 30 154 := rfl
theorem kr_31_154 : ja_code tr_31 154 = js_ic2 (fun x y => y ≤ x) 188 157 := rfl
theorem kr_31_157 : ja_code tr_31 157 = js_aload 0 158 := rfl
theorem kr_31_158 : ja_code tr_31 158 = js_get jl_r 0 28 161 := rfl
theorem kr_31_161 : ja_code tr_31 161 = js_aload 0 162 := rfl
theorem kr_31_162 : ja_code tr_31 162 = js_get jl_r 0 27 165 := rfl
theorem kr_31_165 : ja_code tr_31 165 = js_aload 0 166 := rfl
theorem kr_31_166 : ja_code tr_31 166 = js_get jl_r 0 31 169 := rfl
theorem kr_31_169 : ja_code tr_31 169 = js_iload 2 170 := rfl
theorem kr_31_170 : ja_code tr_31 170 = js_ald jl_r 0 171 := rfl
theorem kr_31_171 : ja_code tr_31 171 = js_ast jl_r 172 := rfl
theorem kr_31_172 : ja_code tr_31 172 = js_aload 0 173 := rfl
theorem kr_31_173 : ja_code tr_31 173 = js_dup 174 := rfl
theorem kr_31_174 : ja_code tr_31 174 = js_get jl_r 0 27 177 := rfl
theorem kr_31_177 : ja_code tr_31 177 = js_ic 1 178 := rfl
theorem kr_31_178 : ja_code tr_31 178 = js_ib (fun x y => x + y) 179 := rfl
theorem kr_31_179 : ja_code tr_31 179 = js_put jl_r 0 27 182 := rfl
theorem kr_31_182 : ja_code tr_31 182 = js_iinc 2 1 185 := rfl
theorem kr_31_185 : ja_code tr_31 185 = js_goto 149 := rfl
theorem kr_31_188 : ja_code tr_31 188 = js_aload 0 189 := rfl
theorem kr_31_189 : ja_code tr_31 189 = js_get jl_r 0 7 192 := rfl
theorem kr_31_192 : ja_code tr_31 192 = js_aload 0 193 := rfl
theorem kr_31_193 : ja_code tr_31 193 = js_get jl_r 0 33 196 := rfl
theorem kr_31_196 : ja_code tr_31 196 = js_iload 1 197 := rfl
theorem kr_31_197 : ja_code tr_31 197 = js_if (fun x => x = 0) 204 200 := rfl
theorem kr_31_200 : ja_code tr_31 200 = js_ic 3 201 := rfl
theorem kr_31_201 : ja_code tr_31 201 = js_goto 205 := rfl
theorem kr_31_204 : ja_code tr_31 204 = js_ic 4 205 := rfl
theorem kr_31_205 : ja_code tr_31 205 = js_ast jl_r 206 := rfl
theorem kr_31_206 : ja_code tr_31 206 = js_aload 0 207 := rfl
theorem kr_31_207 : ja_code tr_31 207 = js_get jl_r 0 8 210 := rfl
theorem kr_31_210 : ja_code tr_31 210 = js_aload 0 211 := rfl
theorem kr_31_211 : ja_code tr_31 211 = js_get jl_r 0 33 214 := rfl
theorem kr_31_214 : ja_code tr_31 214 = js_aload 0 215 := rfl
theorem kr_31_215 : ja_code tr_31 215 = js_get jl_r 0 20 218 := rfl
theorem kr_31_218 : ja_code tr_31 218 = js_ast jl_r 219 := rfl
theorem kr_31_219 : ja_code tr_31 219 = js_aload 0 220 := rfl
theorem kr_31_220 : ja_code tr_31 220 = js_dup 221 := rfl
theorem kr_31_221 : ja_code tr_31 221 = js_get jl_r 0 20 224 := rfl
theorem kr_31_224 : ja_code tr_31 224 = js_ic 1 225 := rfl
theorem kr_31_225 : ja_code tr_31 225 = js_ib (fun x y => x + y) 226 := rfl
theorem kr_31_226 : ja_code tr_31 226 = js_put jl_r 0 20 229 := rfl
theorem kr_31_229 : ja_code tr_31 229 = js_ret := rfl
theorem kr_32_0 : ja_code tr_32 0 = js_aload 0 1 := rfl
theorem kr_32_1 : ja_code tr_32 1 = js_ic 4 2 := rfl
theorem kr_32_2 : ja_code tr_32 2 = js_cv jl_r 0 13 1 5 := rfl
theorem kr_32_5 : ja_code tr_32 5 = js_istore 2 6 := rfl
theorem kr_32_6 : ja_code tr_32 6 = js_iload 2 7 := rfl
theorem kr_32_7 : ja_code tr_32 7 = js_if (fun x => x = 0) 20 10 := rfl
theorem kr_32_10 : ja_code tr_32 10 = js_aload 0 11 := rfl
theorem kr_32_11 : ja_code tr_32 11 = js_dup 12 := rfl
theorem kr_32_12 : ja_code tr_32 12 = js_get jl_r 0 9 15 := rfl
theorem kr_32_15 : ja_code tr_32 15 = js_ic 1 16 := rfl
theorem kr_32_16 : ja_code tr_32 16 = js_ib (fun x y => x + y) 17 := rfl
theorem kr_32_17 : ja_code tr_32 17 = js_put jl_r 0 9 20 := rfl
theorem kr_32_20 : ja_code tr_32 20 = js_aload 0 21 := rfl
theorem kr_32_21 : ja_code tr_32 21 = js_cv jl_r 0 21 0 24 := rfl
theorem kr_32_24 : ja_code tr_32 24 = js_istore 3 25 := rfl
theorem kr_32_25 : ja_code tr_32 25 = js_aload 0 26 := rfl
theorem kr_32_26 : ja_code tr_32 26 = js_get jl_r 0 16 29 := rfl
theorem kr_32_29 : ja_code tr_32 29 = js_if (fun x => x = 0) 33 32 := rfl
theorem kr_32_32 : ja_code tr_32 32 = js_ret := rfl
theorem kr_32_33 : ja_code tr_32 33 = js_iload 2 34 := rfl
theorem kr_32_34 : ja_code tr_32 34 = js_if (fun x => x = 0) 37 57 := rfl
theorem kr_32_37 : ja_code tr_32 37 = js_aload 0 38 := rfl
theorem kr_32_38 : ja_code tr_32 38 = js_ic 4 39 := rfl
theorem kr_32_39 : ja_code tr_32 39 = js_cv jl_r 0 13 1 42 := rfl
theorem kr_32_42 : ja_code tr_32 42 = js_if (fun x => x = 0) 57 45 := rfl
theorem kr_32_45 : ja_code tr_32 45 = js_ic 1 46 := rfl
theorem kr_32_46 : ja_code tr_32 46 = js_istore 2 47 := rfl
theorem kr_32_47 : ja_code tr_32 47 = js_aload 0 48 := rfl
theorem kr_32_48 : ja_code tr_32 48 = js_dup 49 := rfl
theorem kr_32_49 : ja_code tr_32 49 = js_get jl_r 0 9 52 := rfl
theorem kr_32_52 : ja_code tr_32 52 = js_ic 1 53 := rfl
theorem kr_32_53 : ja_code tr_32 53 = js_ib (fun x y => x + y) 54 := rfl
theorem kr_32_54 : ja_code tr_32 54 = js_put jl_r 0 9 57 := rfl
theorem kr_32_57 : ja_code tr_32 57 = js_aload 0 58 := rfl
theorem kr_32_58 : ja_code tr_32 58 = js_ic 59 60 := rfl
theorem kr_32_60 : ja_code tr_32 60 = js_cv jl_r 0 13 1 63 := rfl
theorem kr_32_63 : ja_code tr_32 63 = js_if (fun x => x = 0) 77 66 := rfl
theorem kr_32_66 : ja_code tr_32 66 = js_aload 0 67 := rfl
theorem kr_32_67 : ja_code tr_32 67 = js_dup 68 := rfl
theorem kr_32_68 : ja_code tr_32 68 = js_get jl_r 0 9 71 := rfl
theorem kr_32_71 : ja_code tr_32 71 = js_ic 1 72 := rfl
theorem kr_32_72 : ja_code tr_32 72 = js_ib (fun x y => x + y) 73 := rfl
theorem kr_32_73 : ja_code tr_32 73 = js_put jl_r 0 9 76 := rfl
theorem kr_32_76 : ja_code tr_32 76 = js_ret := rfl
theorem kr_32_77 : ja_code tr_32 77 = js_aload 0 78 := rfl
theorem kr_32_78 : ja_code tr_32 78 = js_ic 4 79 := rfl
theorem kr_32_79 : ja_code tr_32 79 = js_iload 3 80 := rfl
theorem kr_32_80 : ja_code tr_32 80 = js_ib (fun x y => x * y) 81 := rfl
theorem kr_32_81 : ja_code tr_32 81 = js_iload 2 82 := rfl
theorem kr_32_82 : ja_code tr_32 82 = js_if (fun x => x = 0) 89 85 := rfl
theorem kr_32_85 : ja_code tr_32 85 = js_ic 2 86 := rfl
theorem kr_32_86 : ja_code tr_32 86 = js_goto 90 := rfl
theorem kr_32_89 : ja_code tr_32 89 = js_ic 0 90 := rfl
theorem kr_32_90 : ja_code tr_32 90 = js_ib (fun x y => x + y) 91 := rfl
theorem kr_32_91 : ja_code tr_32 91 = js_iload 1 92 := rfl
theorem kr_32_92 : ja_code tr_32 92 = js_ic 1 93 := rfl
theorem kr_32_93 : ja_code tr_32 93 = js_ic2 (fun x y => x = y) 96 104 := rfl
theorem kr_32_96 : ja_code tr_32 96 = js_iload 2 97 := rfl
theorem kr_32_97 : ja_code tr_32 97 = js_if (fun x => x = 0) 100 104 := rfl
theorem kr_32_100 : ja_code tr_32 100 = js_ic 1 101 := rfl
theorem kr_32_101 : ja_code tr_32 101 = js_goto 105 := rfl
theorem kr_32_104 : ja_code tr_32 104 = js_ic 0 105 := rfl
theorem kr_32_105 : ja_code tr_32 105 = js_ib (fun x y => x + y) 106 := rfl
theorem kr_32_106 : ja_code tr_32 106 = js_cv jl_r 0 33 1 109 := rfl
theorem kr_32_109 : ja_code tr_32 109 = js_ret := rfl
theorem kr_33_0 : ja_code tr_33 0 = js_aload 0 1 := rfl
theorem kr_33_1 : ja_code tr_33 1 = js_ic 0 2 := rfl
theorem kr_33_2 : ja_code tr_33 2 = js_put jl_r 0 30 5 := rfl
theorem kr_33_5 : ja_code tr_33 5 = js_aload 0 6 := rfl
theorem kr_33_6 : ja_code tr_33 6 = js_ic 0 7 := rfl
theorem kr_33_7 : ja_code tr_33 7 = js_put jl_r 0 32 10 := rfl
theorem kr_33_10 : ja_code tr_33 10 = js_aload 0 11 := rfl
theorem kr_33_11 : ja_code tr_33 11 = js_ic (-1) 12 := rfl
theorem kr_33_12 : ja_code tr_33 12 = js_put jl_r 0 33 15 := rfl
theorem kr_33_15 : ja_code tr_33 15 = js_aload 0 16 := rfl
theorem kr_33_16 : ja_code tr_33 16 = js_ic (-1) 17 := rfl
theorem kr_33_17 : ja_code tr_33 17 = js_put jl_r 0 34 20 := rfl
theorem kr_33_20 : ja_code tr_33 20 = js_aload 0 21 := rfl
theorem kr_33_21 : ja_code tr_33 21 = js_ic 3 22 := rfl
theorem kr_33_22 : ja_code tr_33 22 = js_iload 1 23 := rfl
theorem kr_33_23 : ja_code tr_33 23 = js_cv jl_r 0 11 2 26 := rfl
theorem kr_33_26 : ja_code tr_33 26 = js_aload 0 27 := rfl
theorem kr_33_27 : ja_code tr_33 27 = js_ic 6 29 := rfl
theorem kr_33_29 : ja_code tr_33 29 = js_ic 0 30 := rfl
theorem kr_33_30 : ja_code tr_33 30 = js_cv jl_r 0 11 2 33 := rfl
theorem kr_33_33 : ja_code tr_33 33 = js_ret := rfl
theorem kr_34_0 : ja_code tr_34 0 = js_iload 1 1 := rfl
theorem kr_34_1 : ja_code tr_34 1 = js_ic 2 2 := rfl
theorem kr_34_2 : ja_code tr_34 2 = js_ib (fun x y => x &&& y) 3 := rfl
theorem kr_34_3 : ja_code tr_34 3 = js_if (fun x => x = 0) 10 6 := rfl
theorem kr_34_6 : ja_code tr_34 6 = js_ic 1 7 := rfl
theorem kr_34_7 : ja_code tr_34 7 = js_goto 11 := rfl
theorem kr_34_10 : ja_code tr_34 10 = js_ic 0 11 := rfl
theorem kr_34_11 : ja_code tr_34 11 = js_istore 2 12 := rfl
theorem kr_34_12 : ja_code tr_34 12 = js_aload 0 13 := rfl
theorem kr_34_13 : ja_code tr_34 13 = js_iload 1 14 := rfl
theorem kr_34_14 : ja_code tr_34 14 = js_ic 2 15 := rfl
theorem kr_34_15 : ja_code tr_34 15 = js_ib (fun x y => x >>> (y &&& 31)) 16 := rfl
theorem kr_34_16 : ja_code tr_34 16 = js_cv jl_r 0 25 1 19 := rfl
theorem kr_34_19 : ja_code tr_34 19 = js_aload 0 20 := rfl
theorem kr_34_20 : ja_code tr_34 20 = js_iload 2 21 := rfl
theorem kr_34_21 : ja_code tr_34 21 = js_cv jl_r 0 31 1 24 := rfl
theorem kr_34_24 : ja_code tr_34 24 = js_iload 2 25 := rfl
theorem kr_34_25 : ja_code tr_34 25 = js_if (fun x => x = 0) 34 28 := rfl
theorem kr_34_28 : ja_code tr_34 28 = js_aload 0 29 := rfl
theorem kr_34_29 : ja_code tr_34 29 = js_ic 35 31 := rfl
theorem kr_34_31 : ja_code tr_34 31 = js_cv jl_r 0 26 1 34 := rfl
theorem kr_34_34 : ja_code tr_34 34 = js_aload 0 35 := rfl
theorem kr_34_35 : ja_code tr_34 35 = js_aload 0 36 := rfl
theorem kr_34_36 : ja_code tr_34 36 = js_get jl_r 0 33 39 := rfl
theorem kr_34_39 : ja_code tr_34 39 = js_cv jl_r 0 29 1 42 := rfl
theorem kr_34_42 : ja_code tr_34 42 = js_aload 0 43 := rfl
theorem kr_34_43 : ja_code tr_34 43 = js_ic 58 45 := rfl
theorem kr_34_45 : ja_code tr_34 45 = js_cv jl_r 0 26 1 48 := rfl
theorem kr_34_48 : ja_code tr_34 48 = js_aload 0 49 := rfl
theorem kr_34_49 : ja_code tr_34 49 = js_cv jl_r 0 30 0 52 := rfl
theorem kr_34_52 : ja_code tr_34 52 = js_aload 0 53 := rfl
theorem kr_34_53 : ja_code tr_34 53 = js_ic 123 55 := rfl
theorem kr_34_55 : ja_code tr_34 55 = js_cv jl_r 0 13 1 58 := rfl
theorem kr_34_58 : ja_code tr_34 58 = js_if (fun x => x = 0) 94 61 := rfl
theorem kr_34_61 : ja_code tr_34 61 = js_iload 1 62 := rfl
theorem kr_34_62 : ja_code tr_34 62 = js_ic 1 63 := rfl
theorem kr_34_63 : ja_code tr_34 63 = js_ib (fun x y => x &&& y) 64 := rfl
theorem kr_34_64 : ja_code tr_34 64 = js_ic 1 65 := rfl
theorem kr_34_65 : ja_code tr_34 65 = js_ic2 (fun x y => x = y) 68 94 := rfl
theorem kr_34_68 : ja_code tr_34 68 = js_aload 0 69 := rfl
theorem kr_34_69 : ja_code tr_34 69 = js_get jl_r 0 24 72 := rfl
theorem kr_34_72 : ja_code tr_34 72 = js_aload 0 73 := rfl
theorem kr_34_73 : ja_code tr_34 73 = js_get jl_r 0 20 76 := rfl
theorem kr_34_76 : ja_code tr_34 76 = js_ic 1 77 := rfl
theorem kr_34_77 : ja_code tr_34 77 = js_ib (fun x y => x - y) 78 := rfl
theorem kr_34_78 : ja_code tr_34 78 = js_ald jl_r 0 79 := rfl
theorem kr_34_79 : ja_code tr_34 79 = js_ic 2 80 := rfl
theorem kr_34_80 : ja_code tr_34 80 = js_ic2 (fun x y => x = y) 83 94 := rfl
theorem kr_34_83 : ja_code tr_34 83 = js_aload 0 84 := rfl
theorem kr_34_84 : ja_code tr_34 84 = js_ic 15 86 := rfl
theorem kr_34_86 : ja_code tr_34 86 = js_aload 0 87 := rfl
theorem kr_34_87 : ja_code tr_34 87 = js_get jl_r 0 34 90 := rfl
theorem kr_34_90 : ja_code tr_34 90 = js_cv jl_r 0 11 2 93 := rfl
theorem kr_34_93 : ja_code tr_34 93 = js_ret := rfl
theorem kr_34_94 : ja_code tr_34 94 = js_aload 0 95 := rfl
theorem kr_34_95 : ja_code tr_34 95 = js_ic 5 96 := rfl
theorem kr_34_96 : ja_code tr_34 96 = js_iload 1 97 := rfl
theorem kr_34_97 : ja_code tr_34 97 = js_ic (-2) 99 := rfl
theorem kr_34_99 : ja_code tr_34 99 = js_ib (fun x y => x &&& y) 100 := rfl
theorem kr_34_100 : ja_code tr_34 100 = js_cv jl_r 0 11 2 103 := rfl
theorem kr_34_103 : ja_code tr_34 103 = js_aload 0 104 := rfl
theorem kr_34_104 : ja_code tr_34 104 = js_ic 61 106 := rfl
theorem kr_34_106 : ja_code tr_34 106 = js_cv jl_r 0 13 1 109 := rfl
theorem kr_34_109 : ja_code tr_34 109 = js_if (fun x => x = 0) 137 112 := rfl
theorem kr_34_112 : ja_code tr_34 112 = js_aload 0 113 := rfl
theorem kr_34_113 : ja_code tr_34 113 = js_dup 114 := rfl
theorem kr_34_114 : ja_code tr_34 114 = js_get jl_r 0 9 117 := rfl
theorem kr_34_117 : ja_code tr_34 117 = js_ic 1 118 := rfl
theorem kr_34_118 : ja_code tr_34 118 = js_ib (fun x y => x + y) 119 := rfl
theorem kr_34_119 : ja_code tr_34 119 = js_put jl_r 0 9 122 := rfl
theorem kr_34_122 : ja_code tr_34 122 = js_aload 0 123 := rfl
theorem kr_34_123 : ja_code tr_34 123 = js_ic 19 125 := rfl
theorem kr_34_125 : ja_code tr_34 125 = js_ic 61 127 := rfl
theorem kr_34_127 : ja_code tr_34 127 = js_cv jl_r 0 11 2 130 := rfl
theorem kr_34_130 : ja_code tr_34 130 = js_aload 0 131 := rfl
theorem kr_34_131 : ja_code tr_34 131 = js_ic 22 133 := rfl
theorem kr_34_133 : ja_code tr_34 133 = js_ic 0 134 := rfl
theorem kr_34_134 : ja_code tr_34 134 = js_cv jl_r 0 11 2 137 := rfl
theorem kr_34_137 : ja_code tr_34 137 = js_ret := rfl
theorem kr_35_0 : ja_code tr_35 0 = js_aload 0 1 := rfl
theorem kr_35_1 : ja_code tr_35 1 = js_ic 59 3 := rfl
theorem kr_35_3 : ja_code tr_35 3 = js_cv jl_r 0 26 1 6 := rfl
theorem kr_35_6 : ja_code tr_35 6 = js_aload 0 7 := rfl
theorem kr_35_7 : ja_code tr_35 7 = js_ic 44 9 := rfl
theorem kr_35_9 : ja_code tr_35 9 = js_cv jl_r 0 13 1 12 := rfl
theorem kr_35_12 : ja_code tr_35 12 = js_if (fun x => x = 0) 33 15 := rfl
theorem kr_35_15 : ja_code tr_35 15 = js_aload 0 16 := rfl
theorem kr_35_16 : ja_code tr_35 16 = js_dup 17 := rfl
theorem kr_35_17 : ja_code tr_35 17 = js_get jl_r 0 9 20 := rfl
theorem kr_35_20 : ja_code tr_35 20 = js_ic 1 21 := rfl
theorem kr_35_21 : ja_code tr_35 21 = js_ib (fun x y => x + y) 22 := rfl
theorem kr_35_22 : ja_code tr_35 22 = js_put jl_r 0 9 25 := rfl
theorem kr_35_25 : ja_code tr_35 25 = js_aload 0 26 := rfl
theorem kr_35_26 : ja_code tr_35 26 = js_iload 1 27 := rfl
theorem kr_35_27 : ja_code tr_35 27 = js_cv jl_r 0 33 1 30 := rfl
theorem kr_35_30 : ja_code tr_35 30 = js_goto 40 := rfl
theorem kr_35_33 : ja_code tr_35 33 = js_aload 0 34 := rfl
theorem kr_35_34 : ja_code tr_35 34 = js_ic 59 36 := rfl
theorem kr_35_36 : ja_code tr_35 36 = js_ic 0 37 := rfl
theorem kr_35_37 : ja_code tr_35 37 = js_cv jl_r 0 16 2 40 := rfl
theorem kr_35_40 : ja_code tr_35 40 = js_ret := rfl
theorem kr_36_0 : ja_code tr_36 0 = js_aload 0 1 := rfl
theorem kr_36_1 : ja_code tr_36 1 = js_cv jl_r 0 14 0 4 := rfl
theorem kr_36_4 : ja_code tr_36 4 = js_istore 2 5 := rfl
theorem kr_36_5 : ja_code tr_36 5 = js_aload 0 6 := rfl
theorem kr_36_6 : ja_code tr_36 6 = js_ic 40 8 := rfl
theorem kr_36_8 : ja_code tr_36 8 = js_cv jl_r 0 13 1 11 := rfl
theorem kr_36_11 : ja_code tr_36 11 = js_if (fun x => x = 0) 63 14 := rfl
theorem kr_36_14 : ja_code tr_36 14 = js_iload 1 15 := rfl
theorem kr_36_15 : ja_code tr_36 15 = js_if (fun x => x = 0) 59 18 := rfl
theorem kr_36_18 : ja_code tr_36 18 = js_iload 2 19 := rfl
theorem kr_36_19 : ja_code tr_36 19 = js_ic 42 21 := rfl
theorem kr_36_21 : ja_code tr_36 21 = js_ic2 (fun x y => x = y) 59 24 := rfl
theorem kr_36_24 : ja_code tr_36 24 = js_iload 2 25 := rfl
theorem kr_36_25 : ja_code tr_36 25 = js_ic 40 27 := rfl
theorem kr_36_27 : ja_code tr_36 27 = js_ic2 (fun x y => x = y) 59 30 := rfl
theorem kr_36_30 : ja_code tr_36 30 = js_iload 2 31 := rfl
theorem kr_36_31 : ja_code tr_36 31 = js_ic 91 33 := rfl
theorem kr_36_33 : ja_code tr_36 33 = js_ic2 (fun x y => x = y) 59 36 := rfl
theorem kr_36_36 : ja_code tr_36 36 = js_iload 1 37 := rfl
theorem kr_36_37 : ja_code tr_36 37 = js_ic 1 38 := rfl
theorem kr_36_38 : ja_code tr_36 38 = js_ic2 (fun x y => x = y) 41 63 := rfl
theorem kr_36_41 : ja_code tr_36 41 = js_iload 2 42 := rfl
theorem kr_36_42 : ja_code tr_36 42 = js_ic 1 43 := rfl
theorem kr_36_43 : ja_code tr_36 43 = js_ic2 (fun x y => x = y) 46 63 := rfl
theorem kr_36_46 : ja_code tr_36 46 = js_aload 0 47 := rfl
theorem kr_36_47 : ja_code tr_36 47 = js_aload 0 48 := rfl
theorem kr_36_48 : ja_code tr_36 48 = js_get jl_r 0 9 51 := rfl
theorem kr_36_51 : ja_code tr_36 51 = js_ic 1 52 := rfl
theorem kr_36_52 : ja_code tr_36 52 = js_ib (fun x y => x + y) 53 := rfl
theorem kr_36_53 : ja_code tr_36 53 = js_cv jl_r 0 18 1 56 := rfl
theorem kr_36_56 : ja_code tr_36 56 = js_if (fun x => x = 0) 59 63 := rfl
theorem kr_36_59 : ja_code tr_36 59 = js_ic 1 60 := rfl
theorem kr_36_60 : ja_code tr_36 60 = js_goto 64 := rfl
theorem kr_36_63 : ja_code tr_36 63 = js_ic 0 64 := rfl
theorem kr_36_64 : ja_code tr_36 64 = js_zret := rfl
theorem kr_37_0 : ja_code tr_37 0 = js_ic 0 1 := rfl
theorem kr_37_1 : ja_code tr_37 1 = js_istore 2 2 := rfl
theorem kr_37_2 : ja_code tr_37 2 = js_aload 0 3 := rfl
theorem kr_37_3 : ja_code tr_37 3 = js_ic 42 5 := rfl
theorem kr_37_5 : ja_code tr_37 5 = js_cv jl_r 0 13 1 8 := rfl
theorem kr_37_8 : ja_code tr_37 8 = js_if (fun x => x = 0) 27 11 := rfl
theorem kr_37_11 : ja_code tr_37 11 = js_iinc 2 1 14 := rfl
theorem kr_37_14 : ja_code tr_37 14 = js_aload 0 15 := rfl
theorem kr_37_15 : ja_code tr_37 15 = js_dup 16 := rfl
theorem kr_37_16 : ja_code tr_37 16 = js_get jl_r 0 9 19 := rfl
theorem kr_37_19 : ja_code tr_37 19 = js_ic 1 20 := rfl
theorem kr_37_20 : ja_code tr_37 20 = js_ib (fun x y => x + y) 21 := rfl
theorem kr_37_21 : ja_code tr_37 21 = js_put jl_r 0 9 24 := rfl
theorem kr_37_24 : ja_code tr_37 24 = js_goto 2 := rfl
theorem kr_37_27 : ja_code tr_37 27 = js_aload 0 28 := rfl
theorem kr_37_28 : ja_code tr_37 28 = js_ic 8 30 := rfl
theorem kr_37_30 : ja_code tr_37 30 = js_iload 2 31 := rfl
theorem kr_37_31 : ja_code tr_37 31 = js_cv jl_r 0 11 2 34 := rfl
theorem kr_37_34 : ja_code tr_37 34 = js_aload 0 35 := rfl
theorem kr_37_35 : ja_code tr_37 35 = js_ic 7 37 := rfl
theorem kr_37_37 : ja_code tr_37 37 = js_ic 0 38 := rfl
theorem kr_37_38 : ja_code tr_37 38 = js_cv jl_r 0 11 2 41 := rfl
theorem kr_37_41 : ja_code tr_37 41 = js_aload 0 42 := rfl
theorem kr_37_42 : ja_code tr_37 42 = js_ic 1 43 := rfl
theorem kr_37_43 : ja_code tr_37 43 = js_cv jl_r 0 13 1 46 := rfl
theorem kr_37_46 : ja_code tr_37 46 = js_if (fun x => x = 0) 91 49 := rfl
theorem kr_37_49 : ja_code tr_37 49 = js_iload 1 50 := rfl
theorem kr_37_50 : ja_code tr_37 50 = js_ic 2 51 := rfl
theorem kr_37_51 : ja_code tr_37 51 = js_ic2 (fun x y => y ≤ x) 91 54 := rfl
theorem kr_37_54 : ja_code tr_37 54 = js_aload 0 55 := rfl
theorem kr_37_55 : ja_code tr_37 55 = js_aload 0 56 := rfl
theorem kr_37_56 : ja_code tr_37 56 = js_get jl_r 0 9 59 := rfl
theorem kr_37_59 : ja_code tr_37 59 = js_cv jl_r 0 20 1 62 := rfl
theorem kr_37_62 : ja_code tr_37 62 = js_if (fun x => x = 0) 65 70 := rfl
theorem kr_37_65 : ja_code tr_37 65 = js_aload 0 66 := rfl
theorem kr_37_66 : ja_code tr_37 66 = js_cv jl_r 0 12 0 69 := rfl
theorem kr_37_69 : ja_code tr_37 69 = js_ret := rfl
theorem kr_37_70 : ja_code tr_37 70 = js_aload 0 71 := rfl
theorem kr_37_71 : ja_code tr_37 71 = js_aload 0 72 := rfl
theorem kr_37_72 : ja_code tr_37 72 = js_get jl_r 0 9 75 := rfl
theorem kr_37_75 : ja_code tr_37 75 = js_put jl_r 0 33 78 := rfl
theorem kr_37_78 : ja_code tr_37 78 = js_aload 0 79 := rfl
theorem kr_37_79 : ja_code tr_37 79 = js_dup 80 := rfl
theorem kr_37_80 : ja_code tr_37 80 = js_get jl_r 0 9 83 := rfl
theorem kr_37_83 : ja_code tr_37 83 = js_ic 1 84 := rfl
theorem kr_37_84 : ja_code tr_37 84 = js_ib (fun x y => x + y) 85 := rfl
theorem kr_37_85 : ja_code tr_37 85 = js_put jl_r 0 9 88 := rfl
theorem kr_37_88 : ja_code tr_37 88 = js_goto 129 := rfl
theorem kr_37_91 : ja_code tr_37 91 = js_aload 0 92 := rfl
theorem kr_37_92 : ja_code tr_37 92 = js_iload 1 93 := rfl
theorem kr_37_93 : ja_code tr_37 93 = js_cv jl_r 0 36 1 96 := rfl
theorem kr_37_96 : ja_code tr_37 96 = js_if (fun x => x = 0) 121 99 := rfl
theorem kr_37_99 : ja_code tr_37 99 = js_aload 0 100 := rfl
theorem kr_37_100 : ja_code tr_37 100 = js_ic 18 102 := rfl
theorem kr_37_102 : ja_code tr_37 102 = js_ic 41 104 := rfl
theorem kr_37_104 : ja_code tr_37 104 = js_cv jl_r 0 11 2 107 := rfl
theorem kr_37_107 : ja_code tr_37 107 = js_aload 0 108 := rfl
theorem kr_37_108 : ja_code tr_37 108 = js_ic 6 110 := rfl
theorem kr_37_110 : ja_code tr_37 110 = js_iload 1 111 := rfl
theorem kr_37_111 : ja_code tr_37 111 = js_cv jl_r 0 11 2 114 := rfl
theorem kr_37_114 : ja_code tr_37 114 = js_aload 0 115 := rfl
theorem kr_37_115 : ja_code tr_37 115 = js_cv jl_r 0 15 0 118 := rfl
theorem kr_37_118 : ja_code tr_37 118 = js_goto 129 := rfl
theorem kr_37_121 : ja_code tr_37 121 = js_iload 1 122 := rfl
theorem kr_37_122 : ja_code tr_37 122 = js_if (fun x => x = 0) 125 129 := rfl
theorem kr_37_125 : ja_code tr_37 125 = js_aload 0 126 := rfl
theorem kr_37_126 : ja_code tr_37 126 = js_cv jl_r 0 12 0 129 := rfl
theorem kr_37_129 : ja_code tr_37 129 = js_ret := rfl
theorem kr_38_0 : ja_code tr_38 0 = js_aload 0 1 := rfl
theorem kr_38_1 : ja_code tr_38 1 = js_ic 91 3 := rfl
theorem kr_38_3 : ja_code tr_38 3 = js_cv jl_r 0 13 1 6 := rfl
theorem kr_38_6 : ja_code tr_38 6 = js_if (fun x => x = 0) 108 9 := rfl
theorem kr_38_9 : ja_code tr_38 9 = js_aload 0 10 := rfl
theorem kr_38_10 : ja_code tr_38 10 = js_cv jl_r 0 15 0 13 := rfl
theorem kr_38_13 : ja_code tr_38 13 = js_aload 0 14 := rfl
theorem kr_38_14 : ja_code tr_38 14 = js_ic 91 16 := rfl
theorem kr_38_16 : ja_code tr_38 16 = js_cv jl_r 0 24 1 19 := rfl
theorem kr_38_19 : ja_code tr_38 19 = js_aload 0 20 := rfl
theorem kr_38_20 : ja_code tr_38 20 = js_get jl_r 0 16 23 := rfl
theorem kr_38_23 : ja_code tr_38 23 = js_if (fun x => x = 0) 26 85 := rfl
theorem kr_38_26 : ja_code tr_38 26 = js_aload 0 27 := rfl
theorem kr_38_27 : ja_code tr_38 27 = js_ic 2 28 := rfl
theorem kr_38_28 : ja_code tr_38 28 = js_cv jl_r 0 13 1 31 := rfl
theorem kr_38_31 : ja_code tr_38 31 = js_if (fun x => x = 0) 85 34 := rfl
theorem kr_38_34 : ja_code tr_38 34 = js_ic 0 35 := rfl
theorem kr_38_35 : ja_code tr_38 35 = js_istore 1 36 := rfl
theorem kr_38_36 : ja_code tr_38 36 = js_iload 1 37 := rfl
theorem kr_38_37 : ja_code tr_38 37 = js_aload 0 38 := rfl
theorem kr_38_38 : ja_code tr_38 38 = js_get jl_r 0 6 41 := rfl
theorem kr_38_41 : ja_code tr_38 41 = js_aload 0 42 := rfl
theorem kr_38_42 : ja_code tr_38 42 = js_get jl_r 0 9 45 := rfl
theorem kr_38_45 : ja_code tr_38 45 = js_ald jl_r 0 46 := rfl
theorem kr_38_46 : ja_code tr_38 46 = js_ic2 (fun x y => y ≤ x) 75 49 := rfl
theorem kr_38_49 : ja_code tr_38 49 = js_aload 0 50 := rfl
theorem kr_38_50 : ja_code tr_38 50 = js_aload 0 51 := rfl
theorem kr_38_51 : ja_code tr_38 51 = js_get jl_r 0 1 54 := rfl
theorem kr_38_54 : ja_code tr_38 54 = js_aload 0 55 := rfl
theorem kr_38_55 : ja_code tr_38 55 = js_get jl_r 0 5 58 := rfl
theorem kr_38_58 : ja_code tr_38 58 = js_aload 0 59 := rfl
theorem kr_38_59 : ja_code tr_38 59 = js_get jl_r 0 9 62 := rfl
theorem kr_38_62 : ja_code tr_38 62 = js_ald jl_r 0 63 := rfl
theorem kr_38_63 : ja_code tr_38 63 = js_iload 1 64 := rfl
theorem kr_38_64 : ja_code tr_38 64 = js_ib (fun x y => x + y) 65 := rfl
theorem kr_38_65 : ja_code tr_38 65 = js_ald jl_r 0 66 := rfl
theorem kr_38_66 : ja_code tr_38 66 = js_cv jl_r 0 24 1 69 := rfl
theorem kr_38_69 : ja_code tr_38 69 = js_iinc 1 1 72 := rfl
theorem kr_38_72 : ja_code tr_38 72 = js_goto 36 := rfl
theorem kr_38_75 : ja_code tr_38 75 = js_aload 0 76 := rfl
theorem kr_38_76 : ja_code tr_38 76 = js_dup 77 := rfl
theorem kr_38_77 : ja_code tr_38 77 = js_get jl_r 0 9 80 := rfl
theorem kr_38_80 : ja_code tr_38 80 = js_ic 1 81 := rfl
theorem kr_38_81 : ja_code tr_38 81 = js_ib (fun x y => x + y) 82 := rfl
theorem kr_38_82 : ja_code tr_38 82 = js_put jl_r 0 9 85 := rfl
theorem kr_38_85 : ja_code tr_38 85 = js_aload 0 86 := rfl
theorem kr_38_86 : ja_code tr_38 86 = js_ic 93 88 := rfl
theorem kr_38_88 : ja_code tr_38 88 = js_cv jl_r 0 24 1 91 := rfl
theorem kr_38_91 : ja_code tr_38 91 = js_aload 0 92 := rfl
theorem kr_38_92 : ja_code tr_38 92 = js_ic 7 94 := rfl
theorem kr_38_94 : ja_code tr_38 94 = js_ic 0 95 := rfl
theorem kr_38_95 : ja_code tr_38 95 = js_cv jl_r 0 11 2 98 := rfl
theorem kr_38_98 : ja_code tr_38 98 = js_aload 0 99 := rfl
theorem kr_38_99 : ja_code tr_38 99 = js_ic 93 101 := rfl
theorem kr_38_101 : ja_code tr_38 101 = js_ic 1 102 := rfl
theorem kr_38_102 : ja_code tr_38 102 = js_cv jl_r 0 16 2 105 := rfl
theorem kr_38_105 : ja_code tr_38 105 = js_goto 132 := rfl
theorem kr_38_108 : ja_code tr_38 108 = js_aload 0 109 := rfl
theorem kr_38_109 : ja_code tr_38 109 = js_ic 40 111 := rfl
theorem kr_38_111 : ja_code tr_38 111 = js_cv jl_r 0 13 1 114 := rfl
theorem kr_38_114 : ja_code tr_38 114 = js_if (fun x => x = 0) 132 117 := rfl
theorem kr_38_117 : ja_code tr_38 117 = js_aload 0 118 := rfl
theorem kr_38_118 : ja_code tr_38 118 = js_cv jl_r 0 15 0 121 := rfl
theorem kr_38_121 : ja_code tr_38 121 = js_aload 0 122 := rfl
theorem kr_38_122 : ja_code tr_38 122 = js_get jl_r 0 16 125 := rfl
theorem kr_38_125 : ja_code tr_38 125 = js_if (fun x => x = 0) 128 132 := rfl
theorem kr_38_128 : ja_code tr_38 128 = js_aload 0 129 := rfl
theorem kr_38_129 : ja_code tr_38 129 = js_cv jl_r 0 39 0 132 := rfl
theorem kr_38_132 : ja_code tr_38 132 = js_ret := rfl
theorem kr_39_0 : ja_code tr_39 0 = js_aload 0 1 := rfl
theorem kr_39_1 : ja_code tr_39 1 = js_cv jl_r 0 23 0 4 := rfl
theorem kr_39_4 : ja_code tr_39 4 = js_istore 1 5 := rfl
theorem kr_39_5 : ja_code tr_39 5 = js_aload 0 6 := rfl
theorem kr_39_6 : ja_code tr_39 6 = js_aload 0 7 := rfl
theorem kr_39_7 : ja_code tr_39 7 = js_get jl_r 0 30 10 := rfl
theorem kr_39_10 : ja_code tr_39 10 = js_if (fun x => x = 0) 13 17 := rfl
theorem kr_39_13 : ja_code tr_39 13 = js_iload 1 14 := rfl
theorem kr_39_14 : ja_code tr_39 14 = js_goto 21 := rfl
theorem kr_39_17 : ja_code tr_39 17 = js_aload 0 18 := rfl
theorem kr_39_18 : ja_code tr_39 18 = js_get jl_r 0 34 21 := rfl
theorem kr_39_21 : ja_code tr_39 21 = js_put jl_r 0 34 24 := rfl
theorem kr_39_24 : ja_code tr_39 24 = js_aload 0 25 := rfl
theorem kr_39_25 : ja_code tr_39 25 = js_iload 1 26 := rfl
theorem kr_39_26 : ja_code tr_39 26 = js_cv jl_r 0 22 1 29 := rfl
theorem kr_39_29 : ja_code tr_39 29 = js_aload 0 30 := rfl
theorem kr_39_30 : ja_code tr_39 30 = js_ic 40 32 := rfl
theorem kr_39_32 : ja_code tr_39 32 = js_cv jl_r 0 24 1 35 := rfl
theorem kr_39_35 : ja_code tr_39 35 = js_aload 0 36 := rfl
theorem kr_39_36 : ja_code tr_39 36 = js_ic 7 38 := rfl
theorem kr_39_38 : ja_code tr_39 38 = js_ic 0 39 := rfl
theorem kr_39_39 : ja_code tr_39 39 = js_cv jl_r 0 11 2 42 := rfl
theorem kr_39_42 : ja_code tr_39 42 = js_aload 0 43 := rfl
theorem kr_39_43 : ja_code tr_39 43 = js_ic 14 45 := rfl
theorem kr_39_45 : ja_code tr_39 45 = js_ic 0 46 := rfl
theorem kr_39_46 : ja_code tr_39 46 = js_cv jl_r 0 11 2 49 := rfl
theorem kr_39_49 : ja_code tr_39 49 = js_aload 0 50 := rfl
theorem kr_39_50 : ja_code tr_39 50 = js_ic 7 52 := rfl
theorem kr_39_52 : ja_code tr_39 52 = js_cv jl_r 0 13 1 55 := rfl
theorem kr_39_55 : ja_code tr_39 55 = js_if (fun x => x = 0) 80 58 := rfl
theorem kr_39_58 : ja_code tr_39 58 = js_aload 0 59 := rfl
theorem kr_39_59 : ja_code tr_39 59 = js_cv jl_r 0 14 0 62 := rfl
theorem kr_39_62 : ja_code tr_39 62 = js_ic 41 64 := rfl
theorem kr_39_64 : ja_code tr_39 64 = js_ic2 (fun x y => x = y) 67 80 := rfl
theorem kr_39_67 : ja_code tr_39 67 = js_aload 0 68 := rfl
theorem kr_39_68 : ja_code tr_39 68 = js_dup 69 := rfl
theorem kr_39_69 : ja_code tr_39 69 = js_get jl_r 0 9 72 := rfl
theorem kr_39_72 : ja_code tr_39 72 = js_ic 1 73 := rfl
theorem kr_39_73 : ja_code tr_39 73 = js_ib (fun x y => x + y) 74 := rfl
theorem kr_39_74 : ja_code tr_39 74 = js_put jl_r 0 9 77 := rfl
theorem kr_39_77 : ja_code tr_39 77 = js_goto 96 := rfl
theorem kr_39_80 : ja_code tr_39 80 = js_aload 0 81 := rfl
theorem kr_39_81 : ja_code tr_39 81 = js_ic 41 83 := rfl
theorem kr_39_83 : ja_code tr_39 83 = js_cv jl_r 0 13 1 86 := rfl
theorem kr_39_86 : ja_code tr_39 86 = js_if (fun x => x = 0) 89 96 := rfl
theorem kr_39_89 : ja_code tr_39 89 = js_aload 0 90 := rfl
theorem kr_39_90 : ja_code tr_39 90 = js_ic 9 92 := rfl
theorem kr_39_92 : ja_code tr_39 92 = js_ic 0 93 := rfl
theorem kr_39_93 : ja_code tr_39 93 = js_cv jl_r 0 11 2 96 := rfl
theorem kr_39_96 : ja_code tr_39 96 = js_ret := rfl
theorem kr_40_0 : ja_code tr_40 0 = js_aload 0 1 := rfl
theorem kr_40_1 : ja_code tr_40 1 = js_cv jl_r 0 21 0 4 := rfl
theorem kr_40_4 : ja_code tr_40 4 = js_istore 1 5 := rfl
theorem kr_40_5 : ja_code tr_40 5 = js_aload 0 6 := rfl
theorem kr_40_6 : ja_code tr_40 6 = js_get jl_r 0 16 9 := rfl
theorem kr_40_9 : ja_code tr_40 9 = js_if (fun x => x = 0) 13 12 := rfl
theorem kr_40_12 : ja_code tr_40 12 = js_ret := rfl
theorem kr_40_13 : ja_code tr_40 13 = js_aload 0 14 := rfl
theorem kr_40_14 : ja_code tr_40 14 = js_ic 13 16 := rfl
theorem kr_40_16 : ja_code tr_40 16 = js_ic 0 17 := rfl
theorem kr_40_17 : ja_code tr_40 17 = js_cv jl_r 0 11 2 20 := rfl
theorem kr_40_20 : ja_code tr_40 20 = js_aload 0 21 := rfl
theorem kr_40_21 : ja_code tr_40 21 = js_ic 12 23 := rfl
theorem kr_40_23 : ja_code tr_40 23 = js_aload 0 24 := rfl
theorem kr_40_24 : ja_code tr_40 24 = js_get jl_r 0 32 27 := rfl
theorem kr_40_27 : ja_code tr_40 27 = js_cv jl_r 0 11 2 30 := rfl
theorem kr_40_30 : ja_code tr_40 30 = js_aload 0 31 := rfl
theorem kr_40_31 : ja_code tr_40 31 = js_ic 11 33 := rfl
theorem kr_40_33 : ja_code tr_40 33 = js_aload 0 34 := rfl
theorem kr_40_34 : ja_code tr_40 34 = js_get jl_r 0 33 37 := rfl
theorem kr_40_37 : ja_code tr_40 37 = js_cv jl_r 0 11 2 40 := rfl
theorem kr_40_40 : ja_code tr_40 40 = js_aload 0 41 := rfl
theorem kr_40_41 : ja_code tr_40 41 = js_ic 10 43 := rfl
theorem kr_40_43 : ja_code tr_40 43 = js_iload 1 44 := rfl
theorem kr_40_44 : ja_code tr_40 44 = js_cv jl_r 0 11 2 47 := rfl
theorem kr_40_47 : ja_code tr_40 47 = js_aload 0 48 := rfl
theorem kr_40_48 : ja_code tr_40 48 = js_ic 6 50 := rfl
theorem kr_40_50 : ja_code tr_40 50 = js_ic 1 51 := rfl
theorem kr_40_51 : ja_code tr_40 51 = js_cv jl_r 0 11 2 54 := rfl
theorem kr_40_54 : ja_code tr_40 54 = js_aload 0 55 := rfl
theorem kr_40_55 : ja_code tr_40 55 = js_aload 0 56 := rfl
theorem kr_40_56 : ja_code tr_40 56 = js_get jl_r 0 30 59 := rfl
theorem kr_40_59 : ja_code tr_40 59 = js_put jl_r 0 32 62 := rfl
theorem kr_40_62 : ja_code tr_40 62 = js_aload 0 63 := rfl
theorem kr_40_63 : ja_code tr_40 63 = js_ic (-1) 64 := rfl
theorem kr_40_64 : ja_code tr_40 64 = js_put jl_r 0 33 67 := rfl
theorem kr_40_67 : ja_code tr_40 67 = js_ret := rfl
theorem kr_41_0 : ja_code tr_41 0 = js_aload 0 1 := rfl
theorem kr_41_1 : ja_code tr_41 1 = js_iload 1 2 := rfl
theorem kr_41_2 : ja_code tr_41 2 = js_cv jl_r 0 25 1 5 := rfl
theorem kr_41_5 : ja_code tr_41 5 = js_aload 0 6 := rfl
theorem kr_41_6 : ja_code tr_41 6 = js_get jl_r 0 33 9 := rfl
theorem kr_41_9 : ja_code tr_41 9 = js_if (fun x => x < 0) 17 12 := rfl
theorem kr_41_12 : ja_code tr_41 12 = js_aload 0 13 := rfl
theorem kr_41_13 : ja_code tr_41 13 = js_ic 0 14 := rfl
theorem kr_41_14 : ja_code tr_41 14 = js_cv jl_r 0 31 1 17 := rfl
theorem kr_41_17 : ja_code tr_41 17 = js_ret := rfl
theorem kr_42_0 : ja_code tr_42 0 = js_aload 0 1 := rfl
theorem kr_42_1 : ja_code tr_42 1 = js_ic 44 3 := rfl
theorem kr_42_3 : ja_code tr_42 3 = js_cv jl_r 0 13 1 6 := rfl
theorem kr_42_6 : ja_code tr_42 6 = js_if (fun x => x = 0) 32 9 := rfl
theorem kr_42_9 : ja_code tr_42 9 = js_aload 0 10 := rfl
theorem kr_42_10 : ja_code tr_42 10 = js_dup 11 := rfl
theorem kr_42_11 : ja_code tr_42 11 = js_get jl_r 0 9 14 := rfl
theorem kr_42_14 : ja_code tr_42 14 = js_ic 1 15 := rfl
theorem kr_42_15 : ja_code tr_42 15 = js_ib (fun x y => x + y) 16 := rfl
theorem kr_42_16 : ja_code tr_42 16 = js_put jl_r 0 9 19 := rfl
theorem kr_42_19 : ja_code tr_42 19 = js_aload 0 20 := rfl
theorem kr_42_20 : ja_code tr_42 20 = js_ic 44 22 := rfl
theorem kr_42_22 : ja_code tr_42 22 = js_cv jl_r 0 24 1 25 := rfl
theorem kr_42_25 : ja_code tr_42 25 = js_aload 0 26 := rfl
theorem kr_42_26 : ja_code tr_42 26 = js_ic 9 28 := rfl
theorem kr_42_28 : ja_code tr_42 28 = js_ic 0 29 := rfl
theorem kr_42_29 : ja_code tr_42 29 = js_cv jl_r 0 11 2 32 := rfl
theorem kr_42_32 : ja_code tr_42 32 = js_ret := rfl
theorem kr_43_0 : ja_code tr_43 0 = js_aload 0 1 := rfl
theorem kr_43_1 : ja_code tr_43 1 = js_ic 41 3 := rfl
theorem kr_43_3 : ja_code tr_43 3 = js_ic 1 4 := rfl
theorem kr_43_4 : ja_code tr_43 4 = js_cv jl_r 0 16 2 7 := rfl
theorem kr_43_7 : ja_code tr_43 7 = js_aload 0 8 := rfl
theorem kr_43_8 : ja_code tr_43 8 = js_ic 41 10 := rfl
theorem kr_43_10 : ja_code tr_43 10 = js_cv jl_r 0 24 1 13 := rfl
theorem kr_43_13 : ja_code tr_43 13 = js_aload 0 14 := rfl
theorem kr_43_14 : ja_code tr_43 14 = js_dup 15 := rfl
theorem kr_43_15 : ja_code tr_43 15 = js_get jl_r 0 18 18 := rfl
theorem kr_43_18 : ja_code tr_43 18 = js_ic 1 19 := rfl
theorem kr_43_19 : ja_code tr_43 19 = js_ib (fun x y => x - y) 20 := rfl
theorem kr_43_20 : ja_code tr_43 20 = js_put jl_r 0 18 23 := rfl
theorem kr_43_23 : ja_code tr_43 23 = js_ret := rfl
theorem kr_44_0 : ja_code tr_44 0 = js_aload 0 1 := rfl
theorem kr_44_1 : ja_code tr_44 1 = js_cv jl_r 0 15 0 4 := rfl
theorem kr_44_4 : ja_code tr_44 4 = js_aload 0 5 := rfl
theorem kr_44_5 : ja_code tr_44 5 = js_get jl_r 0 16 8 := rfl
theorem kr_44_8 : ja_code tr_44 8 = js_if (fun x => x = 0) 12 11 := rfl
theorem kr_44_11 : ja_code tr_44 11 = js_ret := rfl
theorem kr_44_12 : ja_code tr_44 12 = js_aload 0 13 := rfl
theorem kr_44_13 : ja_code tr_44 13 = js_iload 1 14 := rfl
theorem kr_44_14 : ja_code tr_44 14 = js_if (fun x => 0 ≤ x) 24 17 := rfl
theorem kr_44_17 : ja_code tr_44 17 = js_aload 0 18 := rfl
theorem kr_44_18 : ja_code tr_44 18 = js_cv jl_r 0 23 0 21 := rfl
theorem kr_44_21 : ja_code tr_44 21 = js_goto 25 := rfl
theorem kr_44_24 : ja_code tr_44 24 = js_iload 1 25 := rfl
theorem kr_44_25 : ja_code tr_44 25 = js_cv jl_r 0 22 1 28 := rfl
theorem kr_44_28 : ja_code tr_44 28 = js_aload 0 29 := rfl
theorem kr_44_29 : ja_code tr_44 29 = js_ic 123 31 := rfl
theorem kr_44_31 : ja_code tr_44 31 = js_cv jl_r 0 26 1 34 := rfl
theorem kr_44_34 : ja_code tr_44 34 = js_aload 0 35 := rfl
theorem kr_44_35 : ja_code tr_44 35 = js_ic 16 37 := rfl
theorem kr_44_37 : ja_code tr_44 37 = js_ic 0 38 := rfl
theorem kr_44_38 : ja_code tr_44 38 = js_cv jl_r 0 11 2 41 := rfl
theorem kr_44_41 : ja_code tr_44 41 = js_ret := rfl
theorem kr_45_0 : ja_code tr_45 0 = js_aload 0 1 := rfl
theorem kr_45_1 : ja_code tr_45 1 = js_ic 125 3 := rfl
theorem kr_45_3 : ja_code tr_45 3 = js_cv jl_r 0 13 1 6 := rfl
theorem kr_45_6 : ja_code tr_45 6 = js_if (fun x => x = 0) 33 9 := rfl
theorem kr_45_9 : ja_code tr_45 9 = js_aload 0 10 := rfl
theorem kr_45_10 : ja_code tr_45 10 = js_ic 125 12 := rfl
theorem kr_45_12 : ja_code tr_45 12 = js_ic 1 13 := rfl
theorem kr_45_13 : ja_code tr_45 13 = js_cv jl_r 0 16 2 16 := rfl
theorem kr_45_16 : ja_code tr_45 16 = js_aload 0 17 := rfl
theorem kr_45_17 : ja_code tr_45 17 = js_ic 125 19 := rfl
theorem kr_45_19 : ja_code tr_45 19 = js_cv jl_r 0 26 1 22 := rfl
theorem kr_45_22 : ja_code tr_45 22 = js_aload 0 23 := rfl
theorem kr_45_23 : ja_code tr_45 23 = js_dup 24 := rfl
theorem kr_45_24 : ja_code tr_45 24 = js_get jl_r 0 18 27 := rfl
theorem kr_45_27 : ja_code tr_45 27 = js_ic 1 28 := rfl
theorem kr_45_28 : ja_code tr_45 28 = js_ib (fun x y => x - y) 29 := rfl
theorem kr_45_29 : ja_code tr_45 29 = js_put jl_r 0 18 32 := rfl
theorem kr_45_32 : ja_code tr_45 32 = js_ret := rfl
theorem kr_45_33 : ja_code tr_45 33 = js_aload 0 34 := rfl
theorem kr_45_34 : ja_code tr_45 34 = js_ic 16 36 := rfl
theorem kr_45_36 : ja_code tr_45 36 = js_ic 0 37 := rfl
theorem kr_45_37 : ja_code tr_45 37 = js_cv jl_r 0 11 2 40 := rfl
theorem kr_45_40 : ja_code tr_45 40 = js_aload 0 41 := rfl
theorem kr_45_41 : ja_code tr_45 41 = js_aload 0 42 := rfl
theorem kr_45_42 : ja_code tr_45 42 = js_ic 4 43 := rfl
theorem kr_45_43 : ja_code tr_45 43 = js_cv jl_r 0 13 1 46 := rfl
theorem kr_45_46 : ja_code tr_45 46 = js_if (fun x => x = 0) 49 60 := rfl
theorem kr_45_49 : ja_code tr_45 49 = js_aload 0 50 := rfl
theorem kr_45_50 : ja_code tr_45 50 = js_aload 0 51 := rfl
theorem kr_45_51 : ja_code tr_45 51 = js_get jl_r 0 9 54 := rfl
theorem kr_45_54 : ja_code tr_45 54 = js_cv jl_r 0 19 1 57 := rfl
theorem kr_45_57 : ja_code tr_45 57 = js_if (fun x => x = 0) 64 60 := rfl
theorem kr_45_60 : ja_code tr_45 60 = js_ic 2 61 := rfl
theorem kr_45_61 : ja_code tr_45 61 = js_goto 66 := rfl
theorem kr_45_64 : ja_code tr_45 64 = js_ic 17 66 := rfl
theorem kr_45_66 : ja_code tr_45 66 = js_ic 0 67 := rfl
theorem kr_45_67 : ja_code tr_45 67 = js_cv jl_r 0 11 2 70 := rfl
theorem kr_45_70 : ja_code tr_45 70 = js_ret := rfl
theorem kr_46_0 : ja_code tr_46 0 = js_aload 0 1 := rfl
theorem kr_46_1 : ja_code tr_46 1 = js_cv jl_r 0 15 0 4 := rfl
theorem kr_46_4 : ja_code tr_46 4 = js_aload 0 5 := rfl
theorem kr_46_5 : ja_code tr_46 5 = js_iload 2 6 := rfl
theorem kr_46_6 : ja_code tr_46 6 = js_ic 0 7 := rfl
theorem kr_46_7 : ja_code tr_46 7 = js_cv jl_r 0 11 2 10 := rfl
theorem kr_46_10 : ja_code tr_46 10 = js_aload 0 11 := rfl
theorem kr_46_11 : ja_code tr_46 11 = js_ic 17 13 := rfl
theorem kr_46_13 : ja_code tr_46 13 = js_ic 0 14 := rfl
theorem kr_46_14 : ja_code tr_46 14 = js_cv jl_r 0 11 2 17 := rfl
theorem kr_46_17 : ja_code tr_46 17 = js_aload 0 18 := rfl
theorem kr_46_18 : ja_code tr_46 18 = js_ic 19 20 := rfl
theorem kr_46_20 : ja_code tr_46 20 = js_iload 1 21 := rfl
theorem kr_46_21 : ja_code tr_46 21 = js_cv jl_r 0 11 2 24 := rfl
theorem kr_46_24 : ja_code tr_46 24 = js_aload 0 25 := rfl
theorem kr_46_25 : ja_code tr_46 25 = js_ic 18 27 := rfl
theorem kr_46_27 : ja_code tr_46 27 = js_ic 41 29 := rfl
theorem kr_46_29 : ja_code tr_46 29 = js_cv jl_r 0 11 2 32 := rfl
theorem kr_46_32 : ja_code tr_46 32 = js_aload 0 33 := rfl
theorem kr_46_33 : ja_code tr_46 33 = js_ic 22 35 := rfl
theorem kr_46_35 : ja_code tr_46 35 = js_ic 0 36 := rfl
theorem kr_46_36 : ja_code tr_46 36 = js_cv jl_r 0 11 2 39 := rfl
theorem kr_46_39 : ja_code tr_46 39 = js_aload 0 40 := rfl
theorem kr_46_40 : ja_code tr_46 40 = js_get jl_r 0 16 43 := rfl
theorem kr_46_43 : ja_code tr_46 43 = js_if (fun x => x = 0) 46 59 := rfl
theorem kr_46_46 : ja_code tr_46 46 = js_aload 0 47 := rfl
theorem kr_46_47 : ja_code tr_46 47 = js_ic 40 49 := rfl
theorem kr_46_49 : ja_code tr_46 49 = js_cv jl_r 0 13 1 52 := rfl
theorem kr_46_52 : ja_code tr_46 52 = js_if (fun x => x = 0) 55 59 := rfl
theorem kr_46_55 : ja_code tr_46 55 = js_aload 0 56 := rfl
theorem kr_46_56 : ja_code tr_46 56 = js_cv jl_r 0 12 0 59 := rfl
theorem kr_46_59 : ja_code tr_46 59 = js_aload 0 60 := rfl
theorem kr_46_60 : ja_code tr_46 60 = js_get jl_r 0 16 63 := rfl
theorem kr_46_63 : ja_code tr_46 63 = js_if (fun x => x = 0) 66 70 := rfl
theorem kr_46_66 : ja_code tr_46 66 = js_aload 0 67 := rfl
theorem kr_46_67 : ja_code tr_46 67 = js_cv jl_r 0 15 0 70 := rfl
theorem kr_46_70 : ja_code tr_46 70 = js_ret := rfl
theorem kr_47_0 : ja_code tr_47 0 = js_aload 0 1 := rfl
theorem kr_47_1 : ja_code tr_47 1 = js_ic 123 3 := rfl
theorem kr_47_3 : ja_code tr_47 3 = js_cv jl_r 0 13 1 6 := rfl
theorem kr_47_6 : ja_code tr_47 6 = js_if (fun x => x = 0) 19 9 := rfl
theorem kr_47_9 : ja_code tr_47 9 = js_aload 0 10 := rfl
theorem kr_47_10 : ja_code tr_47 10 = js_ic 15 12 := rfl
theorem kr_47_12 : ja_code tr_47 12 = js_ic (-1) 13 := rfl
theorem kr_47_13 : ja_code tr_47 13 = js_cv jl_r 0 11 2 16 := rfl
theorem kr_47_16 : ja_code tr_47 16 = js_goto 164 := rfl
theorem kr_47_19 : ja_code tr_47 19 = js_aload 0 20 := rfl
theorem kr_47_20 : ja_code tr_47 20 = js_ic 59 22 := rfl
theorem kr_47_22 : ja_code tr_47 22 = js_cv jl_r 0 13 1 25 := rfl
theorem kr_47_25 : ja_code tr_47 25 = js_if (fun x => x = 0) 47 28 := rfl
theorem kr_47_28 : ja_code tr_47 28 = js_aload 0 29 := rfl
theorem kr_47_29 : ja_code tr_47 29 = js_dup 30 := rfl
theorem kr_47_30 : ja_code tr_47 30 = js_get jl_r 0 9 33 := rfl
theorem kr_47_33 : ja_code tr_47 33 = js_ic 1 34 := rfl
theorem kr_47_34 : ja_code tr_47 34 = js_ib (fun x y => x + y) 35 := rfl
theorem kr_47_35 : ja_code tr_47 35 = js_put jl_r 0 9 38 := rfl
theorem kr_47_38 : ja_code tr_47 38 = js_aload 0 39 := rfl
theorem kr_47_39 : ja_code tr_47 39 = js_ic 59 41 := rfl
theorem kr_47_41 : ja_code tr_47 41 = js_cv jl_r 0 26 1 44 := rfl
theorem kr_47_44 : ja_code tr_47 44 = js_goto 164 := rfl
theorem kr_47_47 : ja_code tr_47 47 = js_aload 0 48 := rfl
theorem kr_47_48 : ja_code tr_47 48 = js_ic 8 50 := rfl
theorem kr_47_50 : ja_code tr_47 50 = js_cv jl_r 0 13 1 53 := rfl
theorem kr_47_53 : ja_code tr_47 53 = js_if (fun x => x = 0) 67 56 := rfl
theorem kr_47_56 : ja_code tr_47 56 = js_aload 0 57 := rfl
theorem kr_47_57 : ja_code tr_47 57 = js_ic 63 59 := rfl
theorem kr_47_59 : ja_code tr_47 59 = js_ic 20 61 := rfl
theorem kr_47_61 : ja_code tr_47 61 = js_cv jl_r 0 46 2 64 := rfl
theorem kr_47_64 : ja_code tr_47 64 = js_goto 164 := rfl
theorem kr_47_67 : ja_code tr_47 67 = js_aload 0 68 := rfl
theorem kr_47_68 : ja_code tr_47 68 = js_ic 10 70 := rfl
theorem kr_47_70 : ja_code tr_47 70 = js_cv jl_r 0 13 1 73 := rfl
theorem kr_47_73 : ja_code tr_47 73 = js_if (fun x => x = 0) 87 76 := rfl
theorem kr_47_76 : ja_code tr_47 76 = js_aload 0 77 := rfl
theorem kr_47_77 : ja_code tr_47 77 = js_ic 37 79 := rfl
theorem kr_47_79 : ja_code tr_47 79 = js_ic 21 81 := rfl
theorem kr_47_81 : ja_code tr_47 81 = js_cv jl_r 0 46 2 84 := rfl
theorem kr_47_84 : ja_code tr_47 84 = js_goto 164 := rfl
theorem kr_47_87 : ja_code tr_47 87 = js_aload 0 88 := rfl
theorem kr_47_88 : ja_code tr_47 88 = js_ic 11 90 := rfl
theorem kr_47_90 : ja_code tr_47 90 = js_cv jl_r 0 13 1 93 := rfl
theorem kr_47_93 : ja_code tr_47 93 = js_if (fun x => x = 0) 141 96 := rfl
theorem kr_47_96 : ja_code tr_47 96 = js_aload 0 97 := rfl
theorem kr_47_97 : ja_code tr_47 97 = js_dup 98 := rfl
theorem kr_47_98 : ja_code tr_47 98 = js_get jl_r 0 9 101 := rfl
theorem kr_47_101 : ja_code tr_47 101 = js_ic 1 102 := rfl
theorem kr_47_102 : ja_code tr_47 102 = js_ib (fun x y => x + y) 103 := rfl
theorem kr_47_103 : ja_code tr_47 103 = js_put jl_r 0 9 106 := rfl
theorem kr_47_106 : ja_code tr_47 106 = js_aload 0 107 := rfl
theorem kr_47_107 : ja_code tr_47 107 = js_ic 19 109 := rfl
theorem kr_47_109 : ja_code tr_47 109 = js_ic 94 111 := rfl
theorem kr_47_111 : ja_code tr_47 111 = js_cv jl_r 0 11 2 114 := rfl
theorem kr_47_114 : ja_code tr_47 114 = js_aload 0 115 := rfl
theorem kr_47_115 : ja_code tr_47 115 = js_ic 39 117 := rfl
theorem kr_47_117 : ja_code tr_47 117 = js_ic 59 119 := rfl
theorem kr_47_119 : ja_code tr_47 119 = js_cv jl_r 0 11 2 122 := rfl
theorem kr_47_122 : ja_code tr_47 122 = js_aload 0 123 := rfl
theorem kr_47_123 : ja_code tr_47 123 = js_ic 59 125 := rfl
theorem kr_47_125 : ja_code tr_47 125 = js_cv jl_r 0 13 1 128 := rfl
theorem kr_47_128 : ja_code tr_47 128 = js_if (fun x => x = 0) 131 164 := rfl
theorem kr_47_131 : ja_code tr_47 131 = js_aload 0 132 := rfl
theorem kr_47_132 : ja_code tr_47 132 = js_ic 22 134 := rfl
theorem kr_47_134 : ja_code tr_47 134 = js_ic 0 135 := rfl
theorem kr_47_135 : ja_code tr_47 135 = js_cv jl_r 0 11 2 138 := rfl
theorem kr_47_138 : ja_code tr_47 138 = js_goto 164 := rfl
theorem kr_47_141 : ja_code tr_47 141 = js_aload 0 142 := rfl
theorem kr_47_142 : ja_code tr_47 142 = js_ic 19 144 := rfl
theorem kr_47_144 : ja_code tr_47 144 = js_ic 59 146 := rfl
theorem kr_47_146 : ja_code tr_47 146 = js_cv jl_r 0 11 2 149 := rfl
theorem kr_47_149 : ja_code tr_47 149 = js_aload 0 150 := rfl
theorem kr_47_150 : ja_code tr_47 150 = js_ic 39 152 := rfl
theorem kr_47_152 : ja_code tr_47 152 = js_ic 59 154 := rfl
theorem kr_47_154 : ja_code tr_47 154 = js_cv jl_r 0 11 2 157 := rfl
theorem kr_47_157 : ja_code tr_47 157 = js_aload 0 158 := rfl
theorem kr_47_158 : ja_code tr_47 158 = js_ic 22 160 := rfl
theorem kr_47_160 : ja_code tr_47 160 = js_ic 0 161 := rfl
theorem kr_47_161 : ja_code tr_47 161 = js_cv jl_r 0 11 2 164 := rfl
theorem kr_47_164 : ja_code tr_47 164 = js_ret := rfl
theorem kr_48_0 : ja_code tr_48 0 = js_aload 0 1 := rfl
theorem kr_48_1 : ja_code tr_48 1 = js_dup 2 := rfl
theorem kr_48_2 : ja_code tr_48 2 = js_get jl_r 0 15 5 := rfl
theorem kr_48_5 : ja_code tr_48 5 = js_ic 1 6 := rfl
theorem kr_48_6 : ja_code tr_48 6 = js_ib (fun x y => x - y) 7 := rfl
theorem kr_48_7 : ja_code tr_48 7 = js_put jl_r 0 15 10 := rfl
theorem kr_48_10 : ja_code tr_48 10 = js_aload 0 11 := rfl
theorem kr_48_11 : ja_code tr_48 11 = js_ic 9 13 := rfl
theorem kr_48_13 : ja_code tr_48 13 = js_cv jl_r 0 13 1 16 := rfl
theorem kr_48_16 : ja_code tr_48 16 = js_if (fun x => x = 0) 43 19 := rfl
theorem kr_48_19 : ja_code tr_48 19 = js_aload 0 20 := rfl
theorem kr_48_20 : ja_code tr_48 20 = js_cv jl_r 0 15 0 23 := rfl
theorem kr_48_23 : ja_code tr_48 23 = js_aload 0 24 := rfl
theorem kr_48_24 : ja_code tr_48 24 = js_ic 58 26 := rfl
theorem kr_48_26 : ja_code tr_48 26 = js_cv jl_r 0 26 1 29 := rfl
theorem kr_48_29 : ja_code tr_48 29 = js_aload 0 30 := rfl
theorem kr_48_30 : ja_code tr_48 30 = js_ic 21 32 := rfl
theorem kr_48_32 : ja_code tr_48 32 = js_ic 0 33 := rfl
theorem kr_48_33 : ja_code tr_48 33 = js_cv jl_r 0 11 2 36 := rfl
theorem kr_48_36 : ja_code tr_48 36 = js_aload 0 37 := rfl
theorem kr_48_37 : ja_code tr_48 37 = js_ic 17 39 := rfl
theorem kr_48_39 : ja_code tr_48 39 = js_ic 0 40 := rfl
theorem kr_48_40 : ja_code tr_48 40 = js_cv jl_r 0 11 2 43 := rfl
theorem kr_48_43 : ja_code tr_48 43 = js_ret := rfl
theorem kr_49_0 : ja_code tr_49 0 = js_aload 0 1 := rfl
theorem kr_49_1 : ja_code tr_49 1 = js_ic 60 3 := rfl
theorem kr_49_3 : ja_code tr_49 3 = js_cv jl_r 0 13 1 6 := rfl
theorem kr_49_6 : ja_code tr_49 6 = js_if (fun x => x = 0) 37 9 := rfl
theorem kr_49_9 : ja_code tr_49 9 = js_aload 0 10 := rfl
theorem kr_49_10 : ja_code tr_49 10 = js_dup 11 := rfl
theorem kr_49_11 : ja_code tr_49 11 = js_get jl_r 0 9 14 := rfl
theorem kr_49_14 : ja_code tr_49 14 = js_ic 1 15 := rfl
theorem kr_49_15 : ja_code tr_49 15 = js_ib (fun x y => x + y) 16 := rfl
theorem kr_49_16 : ja_code tr_49 16 = js_put jl_r 0 9 19 := rfl
theorem kr_49_19 : ja_code tr_49 19 = js_aload 0 20 := rfl
theorem kr_49_20 : ja_code tr_49 20 = js_ic 36 22 := rfl
theorem kr_49_22 : ja_code tr_49 22 = js_ic 60 24 := rfl
theorem kr_49_24 : ja_code tr_49 24 = js_cv jl_r 0 11 2 27 := rfl
theorem kr_49_27 : ja_code tr_49 27 = js_aload 0 28 := rfl
theorem kr_49_28 : ja_code tr_49 28 = js_ic 24 30 := rfl
theorem kr_49_30 : ja_code tr_49 30 = js_ic 0 31 := rfl
theorem kr_49_31 : ja_code tr_49 31 = js_cv jl_r 0 11 2 34 := rfl
theorem kr_49_34 : ja_code tr_49 34 = js_goto 78 := rfl
theorem kr_49_37 : ja_code tr_49 37 = js_aload 0 38 := rfl
theorem kr_49_38 : ja_code tr_49 38 = js_ic 61 40 := rfl
theorem kr_49_40 : ja_code tr_49 40 = js_cv jl_r 0 13 1 43 := rfl
theorem kr_49_43 : ja_code tr_49 43 = js_if (fun x => x = 0) 78 46 := rfl
theorem kr_49_46 : ja_code tr_49 46 = js_aload 0 47 := rfl
theorem kr_49_47 : ja_code tr_49 47 = js_get jl_r 0 37 50 := rfl
theorem kr_49_50 : ja_code tr_49 50 = js_if (fun x => x = 0) 78 53 := rfl
theorem kr_49_53 : ja_code tr_49 53 = js_aload 0 54 := rfl
theorem kr_49_54 : ja_code tr_49 54 = js_dup 55 := rfl
theorem kr_49_55 : ja_code tr_49 55 = js_get jl_r 0 9 58 := rfl
theorem kr_49_58 : ja_code tr_49 58 = js_ic 1 59 := rfl
theorem kr_49_59 : ja_code tr_49 59 = js_ib (fun x y => x + y) 60 := rfl
theorem kr_49_60 : ja_code tr_49 60 = js_put jl_r 0 9 63 := rfl
theorem kr_49_63 : ja_code tr_49 63 = js_aload 0 64 := rfl
theorem kr_49_64 : ja_code tr_49 64 = js_ic 36 66 := rfl
theorem kr_49_66 : ja_code tr_49 66 = js_ic 61 68 := rfl
theorem kr_49_68 : ja_code tr_49 68 = js_cv jl_r 0 11 2 71 := rfl
theorem kr_49_71 : ja_code tr_49 71 = js_aload 0 72 := rfl
theorem kr_49_72 : ja_code tr_49 72 = js_ic 22 74 := rfl
theorem kr_49_74 : ja_code tr_49 74 = js_ic 0 75 := rfl
theorem kr_49_75 : ja_code tr_49 75 = js_cv jl_r 0 11 2 78 := rfl
theorem kr_49_78 : ja_code tr_49 78 = js_ret := rfl
theorem kr_50_0 : ja_code tr_50 0 = js_aload 0 1 := rfl
theorem kr_50_1 : ja_code tr_50 1 = js_iload 1 2 := rfl
theorem kr_50_2 : ja_code tr_50 2 = js_cv jl_r 0 13 1 5 := rfl
theorem kr_50_5 : ja_code tr_50 5 = js_if (fun x => x = 0) 8 16 := rfl
theorem kr_50_8 : ja_code tr_50 8 = js_aload 0 9 := rfl
theorem kr_50_9 : ja_code tr_50 9 = js_iload 2 10 := rfl
theorem kr_50_10 : ja_code tr_50 10 = js_cv jl_r 0 13 1 13 := rfl
theorem kr_50_13 : ja_code tr_50 13 = js_if (fun x => x = 0) 54 16 := rfl
theorem kr_50_16 : ja_code tr_50 16 = js_aload 0 17 := rfl
theorem kr_50_17 : ja_code tr_50 17 = js_iload 4 19 := rfl
theorem kr_50_19 : ja_code tr_50 19 = js_ic 0 20 := rfl
theorem kr_50_20 : ja_code tr_50 20 = js_cv jl_r 0 11 2 23 := rfl
theorem kr_50_23 : ja_code tr_50 23 = js_aload 0 24 := rfl
theorem kr_50_24 : ja_code tr_50 24 = js_ic 36 26 := rfl
theorem kr_50_26 : ja_code tr_50 26 = js_aload 0 27 := rfl
theorem kr_50_27 : ja_code tr_50 27 = js_get jl_r 0 4 30 := rfl
theorem kr_50_30 : ja_code tr_50 30 = js_aload 0 31 := rfl
theorem kr_50_31 : ja_code tr_50 31 = js_get jl_r 0 9 34 := rfl
theorem kr_50_34 : ja_code tr_50 34 = js_ald jl_r 0 35 := rfl
theorem kr_50_35 : ja_code tr_50 35 = js_cv jl_r 0 11 2 38 := rfl
theorem kr_50_38 : ja_code tr_50 38 = js_aload 0 39 := rfl
theorem kr_50_39 : ja_code tr_50 39 = js_iload 3 40 := rfl
theorem kr_50_40 : ja_code tr_50 40 = js_ic 0 41 := rfl
theorem kr_50_41 : ja_code tr_50 41 = js_cv jl_r 0 11 2 44 := rfl
theorem kr_50_44 : ja_code tr_50 44 = js_aload 0 45 := rfl
theorem kr_50_45 : ja_code tr_50 45 = js_dup 46 := rfl
theorem kr_50_46 : ja_code tr_50 46 = js_get jl_r 0 9 49 := rfl
theorem kr_50_49 : ja_code tr_50 49 = js_ic 1 50 := rfl
theorem kr_50_50 : ja_code tr_50 50 = js_ib (fun x y => x + y) 51 := rfl
theorem kr_50_51 : ja_code tr_50 51 = js_put jl_r 0 9 54 := rfl
theorem kr_50_54 : ja_code tr_50 54 = js_ret := rfl
theorem kr_51_0 : ja_code tr_51 0 = js_aload 0 1 := rfl
theorem kr_51_1 : ja_code tr_51 1 = js_ic 40 3 := rfl
theorem kr_51_3 : ja_code tr_51 3 = js_cv jl_r 0 13 1 6 := rfl
theorem kr_51_6 : ja_code tr_51 6 = js_if (fun x => x = 0) 26 9 := rfl
theorem kr_51_9 : ja_code tr_51 9 = js_aload 0 10 := rfl
theorem kr_51_10 : ja_code tr_51 10 = js_aload 0 11 := rfl
theorem kr_51_11 : ja_code tr_51 11 = js_get jl_r 0 9 14 := rfl
theorem kr_51_14 : ja_code tr_51 14 = js_ic 1 15 := rfl
theorem kr_51_15 : ja_code tr_51 15 = js_ib (fun x y => x + y) 16 := rfl
theorem kr_51_16 : ja_code tr_51 16 = js_cv jl_r 0 19 1 19 := rfl
theorem kr_51_19 : ja_code tr_51 19 = js_if (fun x => x = 0) 26 22 := rfl
theorem kr_51_22 : ja_code tr_51 22 = js_ic 1 23 := rfl
theorem kr_51_23 : ja_code tr_51 23 = js_goto 27 := rfl
theorem kr_51_26 : ja_code tr_51 26 = js_ic 0 27 := rfl
theorem kr_51_27 : ja_code tr_51 27 = js_zret := rfl
theorem kr_52_0 : ja_code tr_52 0 = js_aload 0 1 := rfl
theorem kr_52_1 : ja_code tr_52 1 = js_cv jl_r 0 15 0 4 := rfl
theorem kr_52_4 : ja_code tr_52 4 = js_aload 0 5 := rfl
theorem kr_52_5 : ja_code tr_52 5 = js_cv jl_r 0 21 0 8 := rfl
theorem kr_52_8 : ja_code tr_52 8 = js_istore 2 9 := rfl
theorem kr_52_9 : ja_code tr_52 9 = js_aload 0 10 := rfl
theorem kr_52_10 : ja_code tr_52 10 = js_ic 0 11 := rfl
theorem kr_52_11 : ja_code tr_52 11 = js_put jl_r 0 30 14 := rfl
theorem kr_52_14 : ja_code tr_52 14 = js_aload 0 15 := rfl
theorem kr_52_15 : ja_code tr_52 15 = js_ic 0 16 := rfl
theorem kr_52_16 : ja_code tr_52 16 = js_put jl_r 0 32 19 := rfl
theorem kr_52_19 : ja_code tr_52 19 = js_aload 0 20 := rfl
theorem kr_52_20 : ja_code tr_52 20 = js_ic (-1) 21 := rfl
theorem kr_52_21 : ja_code tr_52 21 = js_put jl_r 0 33 24 := rfl
theorem kr_52_24 : ja_code tr_52 24 = js_aload 0 25 := rfl
theorem kr_52_25 : ja_code tr_52 25 = js_iload 1 26 := rfl
theorem kr_52_26 : ja_code tr_52 26 = js_iload 2 27 := rfl
theorem kr_52_27 : ja_code tr_52 27 = js_cv jl_r 0 11 2 30 := rfl
theorem kr_52_30 : ja_code tr_52 30 = js_aload 0 31 := rfl
theorem kr_52_31 : ja_code tr_52 31 = js_ic 6 33 := rfl
theorem kr_52_33 : ja_code tr_52 33 = js_ic 2 34 := rfl
theorem kr_52_34 : ja_code tr_52 34 = js_cv jl_r 0 11 2 37 := rfl
theorem kr_52_37 : ja_code tr_52 37 = js_ret := rfl
theorem kr_53_0 : ja_code tr_53 0 = js_aload 0 1 := rfl
theorem kr_53_1 : ja_code tr_53 1 = js_cv jl_r 0 51 0 4 := rfl
theorem kr_53_4 : ja_code tr_53 4 = js_if (fun x => x = 0) 30 7 := rfl
theorem kr_53_7 : ja_code tr_53 7 = js_aload 0 8 := rfl
theorem kr_53_8 : ja_code tr_53 8 = js_ic 30 10 := rfl
theorem kr_53_10 : ja_code tr_53 10 = js_ic 0 11 := rfl
theorem kr_53_11 : ja_code tr_53 11 = js_cv jl_r 0 11 2 14 := rfl
theorem kr_53_14 : ja_code tr_53 14 = js_aload 0 15 := rfl
theorem kr_53_15 : ja_code tr_53 15 = js_ic 28 17 := rfl
theorem kr_53_17 : ja_code tr_53 17 = js_ic 0 18 := rfl
theorem kr_53_18 : ja_code tr_53 18 = js_cv jl_r 0 11 2 21 := rfl
theorem kr_53_21 : ja_code tr_53 21 = js_aload 0 22 := rfl
theorem kr_53_22 : ja_code tr_53 22 = js_ic 29 24 := rfl
theorem kr_53_24 : ja_code tr_53 24 = js_cv jl_r 0 52 1 27 := rfl
theorem kr_53_27 : ja_code tr_53 27 = js_goto 37 := rfl
theorem kr_53_30 : ja_code tr_53 30 = js_aload 0 31 := rfl
theorem kr_53_31 : ja_code tr_53 31 = js_ic 31 33 := rfl
theorem kr_53_33 : ja_code tr_53 33 = js_ic 0 34 := rfl
theorem kr_53_34 : ja_code tr_53 34 = js_cv jl_r 0 11 2 37 := rfl
theorem kr_53_37 : ja_code tr_53 37 = js_ret := rfl
theorem kr_54_0 : ja_code tr_54 0 = js_aload 0 1 := rfl
theorem kr_54_1 : ja_code tr_54 1 = js_iload 1 2 := rfl
theorem kr_54_2 : ja_code tr_54 2 = js_cv jl_r 0 25 1 5 := rfl
theorem kr_54_5 : ja_code tr_54 5 = js_aload 0 6 := rfl
theorem kr_54_6 : ja_code tr_54 6 = js_ic 41 8 := rfl
theorem kr_54_8 : ja_code tr_54 8 = js_ic 1 9 := rfl
theorem kr_54_9 : ja_code tr_54 9 = js_cv jl_r 0 16 2 12 := rfl
theorem kr_54_12 : ja_code tr_54 12 = js_ic 0 13 := rfl
theorem kr_54_13 : ja_code tr_54 13 = js_istore 2 14 := rfl
theorem kr_54_14 : ja_code tr_54 14 = js_iload 2 15 := rfl
theorem kr_54_15 : ja_code tr_54 15 = js_aload 0 16 := rfl
theorem kr_54_16 : ja_code tr_54 16 = js_get jl_r 0 30 19 := rfl
theorem kr_54_19 : ja_code tr_54 19 = js_ic2 (fun x y => y ≤ x) 53 22 := rfl
theorem kr_54_22 : ja_code tr_54 22 = js_aload 0 23 := rfl
theorem kr_54_23 : ja_code tr_54 23 = js_get jl_r 0 36 26 := rfl
theorem kr_54_26 : ja_code tr_54 26 = js_aload 0 27 := rfl
theorem kr_54_27 : ja_code tr_54 27 = js_get jl_r 0 35 30 := rfl
theorem kr_54_30 : ja_code tr_54 30 = js_aload 0 31 := rfl
theorem kr_54_31 : ja_code tr_54 31 = js_get jl_r 0 31 34 := rfl
theorem kr_54_34 : ja_code tr_54 34 = js_iload 2 35 := rfl
theorem kr_54_35 : ja_code tr_54 35 = js_ald jl_r 0 36 := rfl
theorem kr_54_36 : ja_code tr_54 36 = js_ast jl_r 37 := rfl
theorem kr_54_37 : ja_code tr_54 37 = js_aload 0 38 := rfl
theorem kr_54_38 : ja_code tr_54 38 = js_dup 39 := rfl
theorem kr_54_39 : ja_code tr_54 39 = js_get jl_r 0 35 42 := rfl
theorem kr_54_42 : ja_code tr_54 42 = js_ic 1 43 := rfl
theorem kr_54_43 : ja_code tr_54 43 = js_ib (fun x y => x + y) 44 := rfl
theorem kr_54_44 : ja_code tr_54 44 = js_put jl_r 0 35 47 := rfl
theorem kr_54_47 : ja_code tr_54 47 = js_iinc 2 1 50 := rfl
theorem kr_54_50 : ja_code tr_54 50 = js_goto 14 := rfl
theorem kr_54_53 : ja_code tr_54 53 = js_aload 0 54 := rfl
theorem kr_54_54 : ja_code tr_54 54 = js_get jl_r 0 36 57 := rfl
theorem kr_54_57 : ja_code tr_54 57 = js_aload 0 58 := rfl
theorem kr_54_58 : ja_code tr_54 58 = js_get jl_r 0 35 61 := rfl
theorem kr_54_61 : ja_code tr_54 61 = js_aload 0 62 := rfl
theorem kr_54_62 : ja_code tr_54 62 = js_get jl_r 0 30 65 := rfl
theorem kr_54_65 : ja_code tr_54 65 = js_ast jl_r 66 := rfl
theorem kr_54_66 : ja_code tr_54 66 = js_aload 0 67 := rfl
theorem kr_54_67 : ja_code tr_54 67 = js_dup 68 := rfl
theorem kr_54_68 : ja_code tr_54 68 = js_get jl_r 0 35 71 := rfl
theorem kr_54_71 : ja_code tr_54 71 = js_ic 1 72 := rfl
theorem kr_54_72 : ja_code tr_54 72 = js_ib (fun x y => x + y) 73 := rfl
theorem kr_54_73 : ja_code tr_54 73 = js_put jl_r 0 35 76 := rfl
theorem kr_54_76 : ja_code tr_54 76 = js_ret := rfl
theorem kr_55_0 : ja_code tr_55 0 = js_aload 0 1 := rfl
theorem kr_55_1 : ja_code tr_55 1 = js_dup 2 := rfl
theorem kr_55_2 : ja_code tr_55 2 = js_get jl_r 0 35 5 := rfl
theorem kr_55_5 : ja_code tr_55 5 = js_ic 1 6 := rfl
theorem kr_55_6 : ja_code tr_55 6 = js_ib (fun x y => x - y) 7 := rfl
theorem kr_55_7 : ja_code tr_55 7 = js_put jl_r 0 35 10 := rfl
theorem kr_55_10 : ja_code tr_55 10 = js_aload 0 11 := rfl
theorem kr_55_11 : ja_code tr_55 11 = js_get jl_r 0 36 14 := rfl
theorem kr_55_14 : ja_code tr_55 14 = js_aload 0 15 := rfl
theorem kr_55_15 : ja_code tr_55 15 = js_get jl_r 0 35 18 := rfl
theorem kr_55_18 : ja_code tr_55 18 = js_ald jl_r 0 19 := rfl
theorem kr_55_19 : ja_code tr_55 19 = js_istore 1 20 := rfl
theorem kr_55_20 : ja_code tr_55 20 = js_aload 0 21 := rfl
theorem kr_55_21 : ja_code tr_55 21 = js_aload 0 22 := rfl
theorem kr_55_22 : ja_code tr_55 22 = js_get jl_r 0 35 25 := rfl
theorem kr_55_25 : ja_code tr_55 25 = js_iload 1 26 := rfl
theorem kr_55_26 : ja_code tr_55 26 = js_ib (fun x y => x - y) 27 := rfl
theorem kr_55_27 : ja_code tr_55 27 = js_put jl_r 0 35 30 := rfl
theorem kr_55_30 : ja_code tr_55 30 = js_aload 0 31 := rfl
theorem kr_55_31 : ja_code tr_55 31 = js_ic 91 33 := rfl
theorem kr_55_33 : ja_code tr_55 33 = js_cv jl_r 0 26 1 36 := rfl
theorem kr_55_36 : ja_code tr_55 36 = js_ic 0 37 := rfl
theorem kr_55_37 : ja_code tr_55 37 = js_istore 2 38 := rfl
theorem kr_55_38 : ja_code tr_55 38 = js_iload 2 39 := rfl
theorem kr_55_39 : ja_code tr_55 39 = js_iload 1 40 := rfl
theorem kr_55_40 : ja_code tr_55 40 = js_ic2 (fun x y => y ≤ x) 64 43 := rfl
theorem kr_55_43 : ja_code tr_55 43 = js_aload 0 44 := rfl
theorem kr_55_44 : ja_code tr_55 44 = js_aload 0 45 := rfl
theorem kr_55_45 : ja_code tr_55 45 = js_get jl_r 0 36 48 := rfl
theorem kr_55_48 : ja_code tr_55 48 = js_aload 0 49 := rfl
theorem kr_55_49 : ja_code tr_55 49 = js_get jl_r 0 35 52 := rfl
theorem kr_55_52 : ja_code tr_55 52 = js_iload 2 53 := rfl
theorem kr_55_53 : ja_code tr_55 53 = js_ib (fun x y => x + y) 54 := rfl
theorem kr_55_54 : ja_code tr_55 54 = js_ald jl_r 0 55 := rfl
theorem kr_55_55 : ja_code tr_55 55 = js_cv jl_r 0 26 1 58 := rfl
theorem kr_55_58 : ja_code tr_55 58 = js_iinc 2 1 61 := rfl
theorem kr_55_61 : ja_code tr_55 61 = js_goto 38 := rfl
theorem kr_55_64 : ja_code tr_55 64 = js_aload 0 65 := rfl
theorem kr_55_65 : ja_code tr_55 65 = js_ic 93 67 := rfl
theorem kr_55_67 : ja_code tr_55 67 = js_cv jl_r 0 26 1 70 := rfl
theorem kr_55_70 : ja_code tr_55 70 = js_aload 0 71 := rfl
theorem kr_55_71 : ja_code tr_55 71 = js_ic 0 72 := rfl
theorem kr_55_72 : ja_code tr_55 72 = js_putz jl_r 0 37 75 := rfl
theorem kr_55_75 : ja_code tr_55 75 = js_ret := rfl
theorem kr_56_0 : ja_code tr_56 0 = js_aload 0 1 := rfl
theorem kr_56_1 : ja_code tr_56 1 = js_iload 1 2 := rfl
theorem kr_56_2 : ja_code tr_56 2 = js_cv jl_r 0 25 1 5 := rfl
theorem kr_56_5 : ja_code tr_56 5 = js_aload 0 6 := rfl
theorem kr_56_6 : ja_code tr_56 6 = js_ic 41 8 := rfl
theorem kr_56_8 : ja_code tr_56 8 = js_ic 1 9 := rfl
theorem kr_56_9 : ja_code tr_56 9 = js_cv jl_r 0 16 2 12 := rfl
theorem kr_56_12 : ja_code tr_56 12 = js_aload 0 13 := rfl
theorem kr_56_13 : ja_code tr_56 13 = js_ic 91 15 := rfl
theorem kr_56_15 : ja_code tr_56 15 = js_cv jl_r 0 26 1 18 := rfl
theorem kr_56_18 : ja_code tr_56 18 = js_aload 0 19 := rfl
theorem kr_56_19 : ja_code tr_56 19 = js_cv jl_r 0 30 0 22 := rfl
theorem kr_56_22 : ja_code tr_56 22 = js_aload 0 23 := rfl
theorem kr_56_23 : ja_code tr_56 23 = js_ic 93 25 := rfl
theorem kr_56_25 : ja_code tr_56 25 = js_cv jl_r 0 26 1 28 := rfl
theorem kr_56_28 : ja_code tr_56 28 = js_aload 0 29 := rfl
theorem kr_56_29 : ja_code tr_56 29 = js_ic 36 31 := rfl
theorem kr_56_31 : ja_code tr_56 31 = js_cv jl_r 0 26 1 34 := rfl
theorem kr_56_34 : ja_code tr_56 34 = js_aload 0 35 := rfl
theorem kr_56_35 : ja_code tr_56 35 = js_ic 0 36 := rfl
theorem kr_56_36 : ja_code tr_56 36 = js_putz jl_r 0 37 39 := rfl
theorem kr_56_39 : ja_code tr_56 39 = js_ret := rfl
theorem kr_57_0 : ja_code tr_57 0 = js_aload 0 1 := rfl
theorem kr_57_1 : ja_code tr_57 1 = js_ic 42 3 := rfl
theorem kr_57_3 : ja_code tr_57 3 = js_cv jl_r 0 13 1 6 := rfl
theorem kr_57_6 : ja_code tr_57 6 = js_if (fun x => x = 0) 16 9 := rfl
theorem kr_57_9 : ja_code tr_57 9 = js_aload 0 10 := rfl
theorem kr_57_10 : ja_code tr_57 10 = js_ic 37 12 := rfl
theorem kr_57_12 : ja_code tr_57 12 = js_ic 0 13 := rfl
theorem kr_57_13 : ja_code tr_57 13 = js_cv jl_r 0 11 2 16 := rfl
theorem kr_57_16 : ja_code tr_57 16 = js_aload 0 17 := rfl
theorem kr_57_17 : ja_code tr_57 17 = js_ic 45 19 := rfl
theorem kr_57_19 : ja_code tr_57 19 = js_cv jl_r 0 13 1 22 := rfl
theorem kr_57_22 : ja_code tr_57 22 = js_if (fun x => x = 0) 25 52 := rfl
theorem kr_57_25 : ja_code tr_57 25 = js_aload 0 26 := rfl
theorem kr_57_26 : ja_code tr_57 26 = js_ic 42 28 := rfl
theorem kr_57_28 : ja_code tr_57 28 = js_cv jl_r 0 13 1 31 := rfl
theorem kr_57_31 : ja_code tr_57 31 = js_if (fun x => x = 0) 34 52 := rfl
theorem kr_57_34 : ja_code tr_57 34 = js_aload 0 35 := rfl
theorem kr_57_35 : ja_code tr_57 35 = js_ic 38 37 := rfl
theorem kr_57_37 : ja_code tr_57 37 = js_cv jl_r 0 13 1 40 := rfl
theorem kr_57_40 : ja_code tr_57 40 = js_if (fun x => x = 0) 43 52 := rfl
theorem kr_57_43 : ja_code tr_57 43 = js_aload 0 44 := rfl
theorem kr_57_44 : ja_code tr_57 44 = js_ic 33 46 := rfl
theorem kr_57_46 : ja_code tr_57 46 = js_cv jl_r 0 13 1 49 := rfl
theorem kr_57_49 : ja_code tr_57 49 = js_if (fun x => x = 0) 115 52 := rfl
theorem kr_57_52 : ja_code tr_57 52 = js_aload 0 53 := rfl
theorem kr_57_53 : ja_code tr_57 53 = js_ic 36 55 := rfl
theorem kr_57_55 : ja_code tr_57 55 = js_aload 0 56 := rfl
theorem kr_57_56 : ja_code tr_57 56 = js_ic 45 58 := rfl
theorem kr_57_58 : ja_code tr_57 58 = js_cv jl_r 0 13 1 61 := rfl
theorem kr_57_61 : ja_code tr_57 61 = js_if (fun x => x = 0) 69 64 := rfl
theorem kr_57_64 : ja_code tr_57 64 = js_ic 126 66 := rfl
theorem kr_57_66 : ja_code tr_57 66 = js_goto 92 := rfl
theorem kr_57_69 : ja_code tr_57 69 = js_aload 0 70 := rfl
theorem kr_57_70 : ja_code tr_57 70 = js_ic 42 72 := rfl
theorem kr_57_72 : ja_code tr_57 72 = js_cv jl_r 0 13 1 75 := rfl
theorem kr_57_75 : ja_code tr_57 75 = js_if (fun x => x = 0) 83 78 := rfl
theorem kr_57_78 : ja_code tr_57 78 = js_ic 64 80 := rfl
theorem kr_57_80 : ja_code tr_57 80 = js_goto 92 := rfl
theorem kr_57_83 : ja_code tr_57 83 = js_aload 0 84 := rfl
theorem kr_57_84 : ja_code tr_57 84 = js_get jl_r 0 4 87 := rfl
theorem kr_57_87 : ja_code tr_57 87 = js_aload 0 88 := rfl
theorem kr_57_88 : ja_code tr_57 88 = js_get jl_r 0 9 91 := rfl
theorem kr_57_91 : ja_code tr_57 91 = js_ald jl_r 0 92 := rfl
theorem kr_57_92 : ja_code tr_57 92 = js_cv jl_r 0 11 2 95 := rfl
theorem kr_57_95 : ja_code tr_57 95 = js_aload 0 96 := rfl
theorem kr_57_96 : ja_code tr_57 96 = js_ic 28 98 := rfl
theorem kr_57_98 : ja_code tr_57 98 = js_ic 0 99 := rfl
theorem kr_57_99 : ja_code tr_57 99 = js_cv jl_r 0 11 2 102 := rfl
theorem kr_57_102 : ja_code tr_57 102 = js_aload 0 103 := rfl
theorem kr_57_103 : ja_code tr_57 103 = js_dup 104 := rfl
theorem kr_57_104 : ja_code tr_57 104 = js_get jl_r 0 9 107 := rfl
theorem kr_57_107 : ja_code tr_57 107 = js_ic 1 108 := rfl
theorem kr_57_108 : ja_code tr_57 108 = js_ib (fun x y => x + y) 109 := rfl
theorem kr_57_109 : ja_code tr_57 109 = js_put jl_r 0 9 112 := rfl
theorem kr_57_112 : ja_code tr_57 112 = js_goto 175 := rfl
theorem kr_57_115 : ja_code tr_57 115 = js_aload 0 116 := rfl
theorem kr_57_116 : ja_code tr_57 116 = js_ic 12 118 := rfl
theorem kr_57_118 : ja_code tr_57 118 = js_cv jl_r 0 13 1 121 := rfl
theorem kr_57_121 : ja_code tr_57 121 = js_if (fun x => x = 0) 168 124 := rfl
theorem kr_57_124 : ja_code tr_57 124 = js_aload 0 125 := rfl
theorem kr_57_125 : ja_code tr_57 125 = js_dup 126 := rfl
theorem kr_57_126 : ja_code tr_57 126 = js_get jl_r 0 9 129 := rfl
theorem kr_57_129 : ja_code tr_57 129 = js_ic 1 130 := rfl
theorem kr_57_130 : ja_code tr_57 130 = js_ib (fun x y => x + y) 131 := rfl
theorem kr_57_131 : ja_code tr_57 131 = js_put jl_r 0 9 134 := rfl
theorem kr_57_134 : ja_code tr_57 134 = js_aload 0 135 := rfl
theorem kr_57_135 : ja_code tr_57 135 = js_cv jl_r 0 51 0 138 := rfl
theorem kr_57_138 : ja_code tr_57 138 = js_if (fun x => x = 0) 150 141 := rfl
theorem kr_57_141 : ja_code tr_57 141 = js_aload 0 142 := rfl
theorem kr_57_142 : ja_code tr_57 142 = js_ic 32 144 := rfl
theorem kr_57_144 : ja_code tr_57 144 = js_cv jl_r 0 52 1 147 := rfl
theorem kr_57_147 : ja_code tr_57 147 = js_goto 175 := rfl
theorem kr_57_150 : ja_code tr_57 150 = js_aload 0 151 := rfl
theorem kr_57_151 : ja_code tr_57 151 = js_ic 36 153 := rfl
theorem kr_57_153 : ja_code tr_57 153 = js_ic 36 155 := rfl
theorem kr_57_155 : ja_code tr_57 155 = js_cv jl_r 0 11 2 158 := rfl
theorem kr_57_158 : ja_code tr_57 158 = js_aload 0 159 := rfl
theorem kr_57_159 : ja_code tr_57 159 = js_ic 31 161 := rfl
theorem kr_57_161 : ja_code tr_57 161 = js_ic 0 162 := rfl
theorem kr_57_162 : ja_code tr_57 162 = js_cv jl_r 0 11 2 165 := rfl
theorem kr_57_165 : ja_code tr_57 165 = js_goto 175 := rfl
theorem kr_57_168 : ja_code tr_57 168 = js_aload 0 169 := rfl
theorem kr_57_169 : ja_code tr_57 169 = js_ic 33 171 := rfl
theorem kr_57_171 : ja_code tr_57 171 = js_ic 0 172 := rfl
theorem kr_57_172 : ja_code tr_57 172 = js_cv jl_r 0 11 2 175 := rfl
theorem kr_57_175 : ja_code tr_57 175 = js_ret := rfl
theorem kr_58_0 : ja_code tr_58 0 = js_aload 0 1 := rfl
theorem kr_58_1 : ja_code tr_58 1 = js_ic 34 3 := rfl
theorem kr_58_3 : ja_code tr_58 3 = js_ic 0 4 := rfl
theorem kr_58_4 : ja_code tr_58 4 = js_cv jl_r 0 11 2 7 := rfl
theorem kr_58_7 : ja_code tr_58 7 = js_aload 0 8 := rfl
theorem kr_58_8 : ja_code tr_58 8 = js_ic 1 9 := rfl
theorem kr_58_9 : ja_code tr_58 9 = js_cv jl_r 0 13 1 12 := rfl
theorem kr_58_12 : ja_code tr_58 12 = js_if (fun x => x = 0) 26 15 := rfl
theorem kr_58_15 : ja_code tr_58 15 = js_aload 0 16 := rfl
theorem kr_58_16 : ja_code tr_58 16 = js_aload 0 17 := rfl
theorem kr_58_17 : ja_code tr_58 17 = js_get jl_r 0 9 20 := rfl
theorem kr_58_20 : ja_code tr_58 20 = js_cv jl_r 0 17 1 23 := rfl
theorem kr_58_23 : ja_code tr_58 23 = js_goto 27 := rfl
theorem kr_58_26 : ja_code tr_58 26 = js_ic (-1) 27 := rfl
theorem kr_58_27 : ja_code tr_58 27 = js_istore 1 28 := rfl
theorem kr_58_28 : ja_code tr_58 28 = js_aload 0 29 := rfl
theorem kr_58_29 : ja_code tr_58 29 = js_ic 40 31 := rfl
theorem kr_58_31 : ja_code tr_58 31 = js_cv jl_r 0 13 1 34 := rfl
theorem kr_58_34 : ja_code tr_58 34 = js_if (fun x => x = 0) 66 37 := rfl
theorem kr_58_37 : ja_code tr_58 37 = js_aload 0 38 := rfl
theorem kr_58_38 : ja_code tr_58 38 = js_ic 38 40 := rfl
theorem kr_58_40 : ja_code tr_58 40 = js_ic 0 41 := rfl
theorem kr_58_41 : ja_code tr_58 41 = js_cv jl_r 0 11 2 44 := rfl
theorem kr_58_44 : ja_code tr_58 44 = js_aload 0 45 := rfl
theorem kr_58_45 : ja_code tr_58 45 = js_ic 18 47 := rfl
theorem kr_58_47 : ja_code tr_58 47 = js_ic 41 49 := rfl
theorem kr_58_49 : ja_code tr_58 49 = js_cv jl_r 0 11 2 52 := rfl
theorem kr_58_52 : ja_code tr_58 52 = js_aload 0 53 := rfl
theorem kr_58_53 : ja_code tr_58 53 = js_ic 22 55 := rfl
theorem kr_58_55 : ja_code tr_58 55 = js_ic 0 56 := rfl
theorem kr_58_56 : ja_code tr_58 56 = js_cv jl_r 0 11 2 59 := rfl
theorem kr_58_59 : ja_code tr_58 59 = js_aload 0 60 := rfl
theorem kr_58_60 : ja_code tr_58 60 = js_cv jl_r 0 15 0 63 := rfl
theorem kr_58_63 : ja_code tr_58 63 = js_goto 155 := rfl
theorem kr_58_66 : ja_code tr_58 66 = js_aload 0 67 := rfl
theorem kr_58_67 : ja_code tr_58 67 = js_ic 2 68 := rfl
theorem kr_58_68 : ja_code tr_58 68 = js_cv jl_r 0 13 1 71 := rfl
theorem kr_58_71 : ja_code tr_58 71 = js_if (fun x => x = 0) 74 88 := rfl
theorem kr_58_74 : ja_code tr_58 74 = js_iload 1 75 := rfl
theorem kr_58_75 : ja_code tr_58 75 = js_if (fun x => x < 0) 151 78 := rfl
theorem kr_58_78 : ja_code tr_58 78 = js_aload 0 79 := rfl
theorem kr_58_79 : ja_code tr_58 79 = js_get jl_r 0 24 82 := rfl
theorem kr_58_82 : ja_code tr_58 82 = js_iload 1 83 := rfl
theorem kr_58_83 : ja_code tr_58 83 = js_ald jl_r 0 84 := rfl
theorem kr_58_84 : ja_code tr_58 84 = js_ic 1 85 := rfl
theorem kr_58_85 : ja_code tr_58 85 = js_ic2 (fun x y => x = y) 151 88 := rfl
theorem kr_58_88 : ja_code tr_58 88 = js_aload 0 89 := rfl
theorem kr_58_89 : ja_code tr_58 89 = js_aload 0 90 := rfl
theorem kr_58_90 : ja_code tr_58 90 = js_ic 1 91 := rfl
theorem kr_58_91 : ja_code tr_58 91 = js_cv jl_r 0 13 1 94 := rfl
theorem kr_58_94 : ja_code tr_58 94 = js_putz jl_r 0 37 97 := rfl
theorem kr_58_97 : ja_code tr_58 97 = js_aload 0 98 := rfl
theorem kr_58_98 : ja_code tr_58 98 = js_get jl_r 0 37 101 := rfl
theorem kr_58_101 : ja_code tr_58 101 = js_if (fun x => x = 0) 124 104 := rfl
theorem kr_58_104 : ja_code tr_58 104 = js_aload 0 105 := rfl
theorem kr_58_105 : ja_code tr_58 105 = js_get jl_r 0 7 108 := rfl
theorem kr_58_108 : ja_code tr_58 108 = js_aload 0 109 := rfl
theorem kr_58_109 : ja_code tr_58 109 = js_get jl_r 0 9 112 := rfl
theorem kr_58_112 : ja_code tr_58 112 = js_ic 2 113 := rfl
theorem kr_58_113 : ja_code tr_58 113 = js_ast jl_r 114 := rfl
theorem kr_58_114 : ja_code tr_58 114 = js_aload 0 115 := rfl
theorem kr_58_115 : ja_code tr_58 115 = js_get jl_r 0 8 118 := rfl
theorem kr_58_118 : ja_code tr_58 118 = js_aload 0 119 := rfl
theorem kr_58_119 : ja_code tr_58 119 = js_get jl_r 0 9 122 := rfl
theorem kr_58_122 : ja_code tr_58 122 = js_iload 1 123 := rfl
theorem kr_58_123 : ja_code tr_58 123 = js_ast jl_r 124 := rfl
theorem kr_58_124 : ja_code tr_58 124 = js_aload 0 125 := rfl
theorem kr_58_125 : ja_code tr_58 125 = js_aload 0 126 := rfl
theorem kr_58_126 : ja_code tr_58 126 = js_get jl_r 0 9 129 := rfl
theorem kr_58_129 : ja_code tr_58 129 = js_cv jl_r 0 29 1 132 := rfl
theorem kr_58_132 : ja_code tr_58 132 = js_aload 0 133 := rfl
theorem kr_58_133 : ja_code tr_58 133 = js_ic 32 135 := rfl
theorem kr_58_135 : ja_code tr_58 135 = js_cv jl_r 0 26 1 138 := rfl
theorem kr_58_138 : ja_code tr_58 138 = js_aload 0 139 := rfl
theorem kr_58_139 : ja_code tr_58 139 = js_dup 140 := rfl
theorem kr_58_140 : ja_code tr_58 140 = js_get jl_r 0 9 143 := rfl
theorem kr_58_143 : ja_code tr_58 143 = js_ic 1 144 := rfl
theorem kr_58_144 : ja_code tr_58 144 = js_ib (fun x y => x + y) 145 := rfl
theorem kr_58_145 : ja_code tr_58 145 = js_put jl_r 0 9 148 := rfl
theorem kr_58_148 : ja_code tr_58 148 = js_goto 155 := rfl
theorem kr_58_151 : ja_code tr_58 151 = js_aload 0 152 := rfl
theorem kr_58_152 : ja_code tr_58 152 = js_cv jl_r 0 12 0 155 := rfl
theorem kr_58_155 : ja_code tr_58 155 = js_ret := rfl
theorem kr_59_0 : ja_code tr_59 0 = js_aload 0 1 := rfl
theorem kr_59_1 : ja_code tr_59 1 = js_ic 91 3 := rfl
theorem kr_59_3 : ja_code tr_59 3 = js_cv jl_r 0 13 1 6 := rfl
theorem kr_59_6 : ja_code tr_59 6 = js_if (fun x => x = 0) 53 9 := rfl
theorem kr_59_9 : ja_code tr_59 9 = js_aload 0 10 := rfl
theorem kr_59_10 : ja_code tr_59 10 = js_ic 34 12 := rfl
theorem kr_59_12 : ja_code tr_59 12 = js_ic 0 13 := rfl
theorem kr_59_13 : ja_code tr_59 13 = js_cv jl_r 0 11 2 16 := rfl
theorem kr_59_16 : ja_code tr_59 16 = js_aload 0 17 := rfl
theorem kr_59_17 : ja_code tr_59 17 = js_ic 37 19 := rfl
theorem kr_59_19 : ja_code tr_59 19 = js_ic 0 20 := rfl
theorem kr_59_20 : ja_code tr_59 20 = js_cv jl_r 0 11 2 23 := rfl
theorem kr_59_23 : ja_code tr_59 23 = js_aload 0 24 := rfl
theorem kr_59_24 : ja_code tr_59 24 = js_ic 19 26 := rfl
theorem kr_59_26 : ja_code tr_59 26 = js_ic 93 28 := rfl
theorem kr_59_28 : ja_code tr_59 28 = js_cv jl_r 0 11 2 31 := rfl
theorem kr_59_31 : ja_code tr_59 31 = js_aload 0 32 := rfl
theorem kr_59_32 : ja_code tr_59 32 = js_ic 18 34 := rfl
theorem kr_59_34 : ja_code tr_59 34 = js_ic 93 36 := rfl
theorem kr_59_36 : ja_code tr_59 36 = js_cv jl_r 0 11 2 39 := rfl
theorem kr_59_39 : ja_code tr_59 39 = js_aload 0 40 := rfl
theorem kr_59_40 : ja_code tr_59 40 = js_ic 22 42 := rfl
theorem kr_59_42 : ja_code tr_59 42 = js_ic 0 43 := rfl
theorem kr_59_43 : ja_code tr_59 43 = js_cv jl_r 0 11 2 46 := rfl
theorem kr_59_46 : ja_code tr_59 46 = js_aload 0 47 := rfl
theorem kr_59_47 : ja_code tr_59 47 = js_cv jl_r 0 15 0 50 := rfl
theorem kr_59_50 : ja_code tr_59 50 = js_goto 128 := rfl
theorem kr_59_53 : ja_code tr_59 53 = js_aload 0 54 := rfl
theorem kr_59_54 : ja_code tr_59 54 = js_ic 40 56 := rfl
theorem kr_59_56 : ja_code tr_59 56 = js_cv jl_r 0 13 1 59 := rfl
theorem kr_59_59 : ja_code tr_59 59 = js_if (fun x => x = 0) 128 62 := rfl
theorem kr_59_62 : ja_code tr_59 62 = js_aload 0 63 := rfl
theorem kr_59_63 : ja_code tr_59 63 = js_ic 34 65 := rfl
theorem kr_59_65 : ja_code tr_59 65 = js_ic 0 66 := rfl
theorem kr_59_66 : ja_code tr_59 66 = js_cv jl_r 0 11 2 69 := rfl
theorem kr_59_69 : ja_code tr_59 69 = js_aload 0 70 := rfl
theorem kr_59_70 : ja_code tr_59 70 = js_ic 37 72 := rfl
theorem kr_59_72 : ja_code tr_59 72 = js_ic 0 73 := rfl
theorem kr_59_73 : ja_code tr_59 73 = js_cv jl_r 0 11 2 76 := rfl
theorem kr_59_76 : ja_code tr_59 76 = js_aload 0 77 := rfl
theorem kr_59_77 : ja_code tr_59 77 = js_cv jl_r 0 15 0 80 := rfl
theorem kr_59_80 : ja_code tr_59 80 = js_aload 0 81 := rfl
theorem kr_59_81 : ja_code tr_59 81 = js_get jl_r 0 16 84 := rfl
theorem kr_59_84 : ja_code tr_59 84 = js_if (fun x => x = 0) 87 100 := rfl
theorem kr_59_87 : ja_code tr_59 87 = js_aload 0 88 := rfl
theorem kr_59_88 : ja_code tr_59 88 = js_ic 41 90 := rfl
theorem kr_59_90 : ja_code tr_59 90 = js_cv jl_r 0 13 1 93 := rfl
theorem kr_59_93 : ja_code tr_59 93 = js_if (fun x => x = 0) 100 96 := rfl
theorem kr_59_96 : ja_code tr_59 96 = js_ic 1 97 := rfl
theorem kr_59_97 : ja_code tr_59 97 = js_goto 101 := rfl
theorem kr_59_100 : ja_code tr_59 100 = js_ic 0 101 := rfl
theorem kr_59_101 : ja_code tr_59 101 = js_istore 1 102 := rfl
theorem kr_59_102 : ja_code tr_59 102 = js_aload 0 103 := rfl
theorem kr_59_103 : ja_code tr_59 103 = js_ic 35 105 := rfl
theorem kr_59_105 : ja_code tr_59 105 = js_iload 1 106 := rfl
theorem kr_59_106 : ja_code tr_59 106 = js_if (fun x => x = 0) 113 109 := rfl
theorem kr_59_109 : ja_code tr_59 109 = js_ic 0 110 := rfl
theorem kr_59_110 : ja_code tr_59 110 = js_goto 114 := rfl
theorem kr_59_113 : ja_code tr_59 113 = js_ic 1 114 := rfl
theorem kr_59_114 : ja_code tr_59 114 = js_cv jl_r 0 11 2 117 := rfl
theorem kr_59_117 : ja_code tr_59 117 = js_iload 1 118 := rfl
theorem kr_59_118 : ja_code tr_59 118 = js_if (fun x => x = 0) 121 128 := rfl
theorem kr_59_121 : ja_code tr_59 121 = js_aload 0 122 := rfl
theorem kr_59_122 : ja_code tr_59 122 = js_ic 22 124 := rfl
theorem kr_59_124 : ja_code tr_59 124 = js_ic 0 125 := rfl
theorem kr_59_125 : ja_code tr_59 125 = js_cv jl_r 0 11 2 128 := rfl
theorem kr_59_128 : ja_code tr_59 128 = js_ret := rfl
theorem kr_60_0 : ja_code tr_60 0 = js_iload 1 1 := rfl
theorem kr_60_1 : ja_code tr_60 1 = js_if (fun x => x ≤ 0) 40 4 := rfl
theorem kr_60_4 : ja_code tr_60 4 = js_aload 0 5 := rfl
theorem kr_60_5 : ja_code tr_60 5 = js_ic 44 7 := rfl
theorem kr_60_7 : ja_code tr_60 7 = js_cv jl_r 0 13 1 10 := rfl
theorem kr_60_10 : ja_code tr_60 10 = js_if (fun x => x = 0) 40 13 := rfl
theorem kr_60_13 : ja_code tr_60 13 = js_aload 0 14 := rfl
theorem kr_60_14 : ja_code tr_60 14 = js_dup 15 := rfl
theorem kr_60_15 : ja_code tr_60 15 = js_get jl_r 0 9 18 := rfl
theorem kr_60_18 : ja_code tr_60 18 = js_ic 1 19 := rfl
theorem kr_60_19 : ja_code tr_60 19 = js_ib (fun x y => x + y) 20 := rfl
theorem kr_60_20 : ja_code tr_60 20 = js_put jl_r 0 9 23 := rfl
theorem kr_60_23 : ja_code tr_60 23 = js_aload 0 24 := rfl
theorem kr_60_24 : ja_code tr_60 24 = js_ic 35 26 := rfl
theorem kr_60_26 : ja_code tr_60 26 = js_iload 1 27 := rfl
theorem kr_60_27 : ja_code tr_60 27 = js_ic 1 28 := rfl
theorem kr_60_28 : ja_code tr_60 28 = js_ib (fun x y => x + y) 29 := rfl
theorem kr_60_29 : ja_code tr_60 29 = js_cv jl_r 0 11 2 32 := rfl
theorem kr_60_32 : ja_code tr_60 32 = js_aload 0 33 := rfl
theorem kr_60_33 : ja_code tr_60 33 = js_ic 22 35 := rfl
theorem kr_60_35 : ja_code tr_60 35 = js_ic 0 36 := rfl
theorem kr_60_36 : ja_code tr_60 36 = js_cv jl_r 0 11 2 39 := rfl
theorem kr_60_39 : ja_code tr_60 39 = js_ret := rfl
theorem kr_60_40 : ja_code tr_60 40 = js_aload 0 41 := rfl
theorem kr_60_41 : ja_code tr_60 41 = js_ic 41 43 := rfl
theorem kr_60_43 : ja_code tr_60 43 = js_ic 1 44 := rfl
theorem kr_60_44 : ja_code tr_60 44 = js_cv jl_r 0 16 2 47 := rfl
theorem kr_60_47 : ja_code tr_60 47 = js_aload 0 48 := rfl
theorem kr_60_48 : ja_code tr_60 48 = js_ic 40 50 := rfl
theorem kr_60_50 : ja_code tr_60 50 = js_cv jl_r 0 26 1 53 := rfl
theorem kr_60_53 : ja_code tr_60 53 = js_aload 0 54 := rfl
theorem kr_60_54 : ja_code tr_60 54 = js_iload 1 55 := rfl
theorem kr_60_55 : ja_code tr_60 55 = js_cv jl_r 0 27 1 58 := rfl
theorem kr_60_58 : ja_code tr_60 58 = js_aload 0 59 := rfl
theorem kr_60_59 : ja_code tr_60 59 = js_ic 41 61 := rfl
theorem kr_60_61 : ja_code tr_60 61 = js_cv jl_r 0 26 1 64 := rfl
theorem kr_60_64 : ja_code tr_60 64 = js_ret := rfl
theorem kr_61_0 : ja_code tr_61 0 = js_aload 0 1 := rfl
theorem kr_61_1 : ja_code tr_61 1 = js_ic 0 2 := rfl
theorem kr_61_2 : ja_code tr_61 2 = js_cv jl_r 0 13 1 5 := rfl
theorem kr_61_5 : ja_code tr_61 5 = js_if (fun x => x = 0) 9 8 := rfl
theorem kr_61_8 : ja_code tr_61 8 = js_ret := rfl
theorem kr_61_9 : ja_code tr_61 9 = js_aload 0 10 := rfl
theorem kr_61_10 : ja_code tr_61 10 = js_ic 1 11 := rfl
theorem kr_61_11 : ja_code tr_61 11 = js_ic 0 12 := rfl
theorem kr_61_12 : ja_code tr_61 12 = js_cv jl_r 0 11 2 15 := rfl
theorem kr_61_15 : ja_code tr_61 15 = js_aload 0 16 := rfl
theorem kr_61_16 : ja_code tr_61 16 = js_ic 4 17 := rfl
theorem kr_61_17 : ja_code tr_61 17 = js_cv jl_r 0 13 1 20 := rfl
theorem kr_61_20 : ja_code tr_61 20 = js_if (fun x => x = 0) 23 34 := rfl
theorem kr_61_23 : ja_code tr_61 23 = js_aload 0 24 := rfl
theorem kr_61_24 : ja_code tr_61 24 = js_aload 0 25 := rfl
theorem kr_61_25 : ja_code tr_61 25 = js_get jl_r 0 9 28 := rfl
theorem kr_61_28 : ja_code tr_61 28 = js_cv jl_r 0 19 1 31 := rfl
theorem kr_61_31 : ja_code tr_61 31 = js_if (fun x => x = 0) 43 34 := rfl
theorem kr_61_34 : ja_code tr_61 34 = js_aload 0 35 := rfl
theorem kr_61_35 : ja_code tr_61 35 = js_ic 2 36 := rfl
theorem kr_61_36 : ja_code tr_61 36 = js_ic 1 37 := rfl
theorem kr_61_37 : ja_code tr_61 37 = js_cv jl_r 0 11 2 40 := rfl
theorem kr_61_40 : ja_code tr_61 40 = js_goto 47 := rfl
theorem kr_61_43 : ja_code tr_61 43 = js_aload 0 44 := rfl
theorem kr_61_44 : ja_code tr_61 44 = js_cv jl_r 0 12 0 47 := rfl
theorem kr_61_47 : ja_code tr_61 47 = js_ret := rfl
theorem kr_62_0 : ja_code tr_62 0 = js_ic 0 1 := rfl
theorem kr_62_1 : ja_code tr_62 1 = js_istore 2 2 := rfl
theorem kr_62_2 : ja_code tr_62 2 = js_iload 2 3 := rfl
theorem kr_62_3 : ja_code tr_62 3 = js_iload 1 4 := rfl
theorem kr_62_4 : ja_code tr_62 4 = js_ic2 (fun x y => y ≤ x) 19 7 := rfl
theorem kr_62_7 : ja_code tr_62 7 = js_aload 0 8 := rfl
theorem kr_62_8 : ja_code tr_62 8 = js_ic 42 10 := rfl
theorem kr_62_10 : ja_code tr_62 10 = js_cv jl_r 0 24 1 13 := rfl
theorem kr_62_13 : ja_code tr_62 13 = js_iinc 2 1 16 := rfl
theorem kr_62_16 : ja_code tr_62 16 = js_goto 2 := rfl
theorem kr_62_19 : ja_code tr_62 19 = js_ret := rfl
theorem kr_63_0 : ja_code tr_63 0 = js_iload 1 1 := rfl
theorem kr_63_1 : ja_code tr_63 1 = js_sw [(1, 68), (2, 75), (3, 83), (4, 160), (5, 91), (6, 99), (7, 107), (8, 114), (9, 122), (10, 129), (11, 137), (12, 145), (13, 153)] 160 := rfl
theorem kr_63_68 : ja_code tr_63 68 = js_aload 0 69 := rfl
theorem kr_63_69 : ja_code tr_63 69 = js_cv jl_r 0 61 0 72 := rfl
theorem kr_63_72 : ja_code tr_63 72 = js_goto 164 := rfl
theorem kr_63_75 : ja_code tr_63 75 = js_aload 0 76 := rfl
theorem kr_63_76 : ja_code tr_63 76 = js_iload 2 77 := rfl
theorem kr_63_77 : ja_code tr_63 77 = js_cv jl_r 0 32 1 80 := rfl
theorem kr_63_80 : ja_code tr_63 80 = js_goto 164 := rfl
theorem kr_63_83 : ja_code tr_63 83 = js_aload 0 84 := rfl
theorem kr_63_84 : ja_code tr_63 84 = js_iload 2 85 := rfl
theorem kr_63_85 : ja_code tr_63 85 = js_cv jl_r 0 34 1 88 := rfl
theorem kr_63_88 : ja_code tr_63 88 = js_goto 164 := rfl
theorem kr_63_91 : ja_code tr_63 91 = js_aload 0 92 := rfl
theorem kr_63_92 : ja_code tr_63 92 = js_iload 2 93 := rfl
theorem kr_63_93 : ja_code tr_63 93 = js_cv jl_r 0 35 1 96 := rfl
theorem kr_63_96 : ja_code tr_63 96 = js_goto 164 := rfl
theorem kr_63_99 : ja_code tr_63 99 = js_aload 0 100 := rfl
theorem kr_63_100 : ja_code tr_63 100 = js_iload 2 101 := rfl
theorem kr_63_101 : ja_code tr_63 101 = js_cv jl_r 0 37 1 104 := rfl
theorem kr_63_104 : ja_code tr_63 104 = js_goto 164 := rfl
theorem kr_63_107 : ja_code tr_63 107 = js_aload 0 108 := rfl
theorem kr_63_108 : ja_code tr_63 108 = js_cv jl_r 0 38 0 111 := rfl
theorem kr_63_111 : ja_code tr_63 111 = js_goto 164 := rfl
theorem kr_63_114 : ja_code tr_63 114 = js_aload 0 115 := rfl
theorem kr_63_115 : ja_code tr_63 115 = js_iload 2 116 := rfl
theorem kr_63_116 : ja_code tr_63 116 = js_cv jl_r 0 62 1 119 := rfl
theorem kr_63_119 : ja_code tr_63 119 = js_goto 164 := rfl
theorem kr_63_122 : ja_code tr_63 122 = js_aload 0 123 := rfl
theorem kr_63_123 : ja_code tr_63 123 = js_cv jl_r 0 40 0 126 := rfl
theorem kr_63_126 : ja_code tr_63 126 = js_goto 164 := rfl
theorem kr_63_129 : ja_code tr_63 129 = js_aload 0 130 := rfl
theorem kr_63_130 : ja_code tr_63 130 = js_iload 2 131 := rfl
theorem kr_63_131 : ja_code tr_63 131 = js_cv jl_r 0 41 1 134 := rfl
theorem kr_63_134 : ja_code tr_63 134 = js_goto 164 := rfl
theorem kr_63_137 : ja_code tr_63 137 = js_aload 0 138 := rfl
theorem kr_63_138 : ja_code tr_63 138 = js_iload 2 139 := rfl
theorem kr_63_139 : ja_code tr_63 139 = js_put jl_r 0 33 142 := rfl
theorem kr_63_142 : ja_code tr_63 142 = js_goto 164 := rfl
theorem kr_63_145 : ja_code tr_63 145 = js_aload 0 146 := rfl
theorem kr_63_146 : ja_code tr_63 146 = js_iload 2 147 := rfl
theorem kr_63_147 : ja_code tr_63 147 = js_put jl_r 0 32 150 := rfl
theorem kr_63_150 : ja_code tr_63 150 = js_goto 164 := rfl
theorem kr_63_153 : ja_code tr_63 153 = js_aload 0 154 := rfl
theorem kr_63_154 : ja_code tr_63 154 = js_cv jl_r 0 42 0 157 := rfl
theorem kr_63_157 : ja_code tr_63 157 = js_goto 164 := rfl
theorem kr_63_160 : ja_code tr_63 160 = js_aload 0 161 := rfl
theorem kr_63_161 : ja_code tr_63 161 = js_cv jl_r 0 43 0 164 := rfl
theorem kr_63_164 : ja_code tr_63 164 = js_ret := rfl
theorem kr_64_0 : ja_code tr_64 0 = js_iload 1 1 := rfl
theorem kr_64_1 : ja_code tr_64 1 = js_sw [(15, 40), (16, 48), (17, 55), (18, 62), (19, 71), (20, 79)] 86 := rfl
theorem kr_64_40 : ja_code tr_64 40 = js_aload 0 41 := rfl
theorem kr_64_41 : ja_code tr_64 41 = js_iload 2 42 := rfl
theorem kr_64_42 : ja_code tr_64 42 = js_cv jl_r 0 44 1 45 := rfl
theorem kr_64_45 : ja_code tr_64 45 = js_goto 96 := rfl
theorem kr_64_48 : ja_code tr_64 48 = js_aload 0 49 := rfl
theorem kr_64_49 : ja_code tr_64 49 = js_cv jl_r 0 45 0 52 := rfl
theorem kr_64_52 : ja_code tr_64 52 = js_goto 96 := rfl
theorem kr_64_55 : ja_code tr_64 55 = js_aload 0 56 := rfl
theorem kr_64_56 : ja_code tr_64 56 = js_cv jl_r 0 47 0 59 := rfl
theorem kr_64_59 : ja_code tr_64 59 = js_goto 96 := rfl
theorem kr_64_62 : ja_code tr_64 62 = js_aload 0 63 := rfl
theorem kr_64_63 : ja_code tr_64 63 = js_iload 2 64 := rfl
theorem kr_64_64 : ja_code tr_64 64 = js_ic 1 65 := rfl
theorem kr_64_65 : ja_code tr_64 65 = js_cv jl_r 0 16 2 68 := rfl
theorem kr_64_68 : ja_code tr_64 68 = js_goto 96 := rfl
theorem kr_64_71 : ja_code tr_64 71 = js_aload 0 72 := rfl
theorem kr_64_72 : ja_code tr_64 72 = js_iload 2 73 := rfl
theorem kr_64_73 : ja_code tr_64 73 = js_cv jl_r 0 26 1 76 := rfl
theorem kr_64_76 : ja_code tr_64 76 = js_goto 96 := rfl
theorem kr_64_79 : ja_code tr_64 79 = js_aload 0 80 := rfl
theorem kr_64_80 : ja_code tr_64 80 = js_cv jl_r 0 48 0 83 := rfl
theorem kr_64_83 : ja_code tr_64 83 = js_goto 96 := rfl
theorem kr_64_86 : ja_code tr_64 86 = js_aload 0 87 := rfl
theorem kr_64_87 : ja_code tr_64 87 = js_dup 88 := rfl
theorem kr_64_88 : ja_code tr_64 88 = js_get jl_r 0 15 91 := rfl
theorem kr_64_91 : ja_code tr_64 91 = js_ic 1 92 := rfl
theorem kr_64_92 : ja_code tr_64 92 = js_ib (fun x y => x - y) 93 := rfl
theorem kr_64_93 : ja_code tr_64 93 = js_put jl_r 0 15 96 := rfl
theorem kr_64_96 : ja_code tr_64 96 = js_ret := rfl
theorem kr_65_0 : ja_code tr_65 0 = js_iload 1 1 := rfl
theorem kr_65_1 : ja_code tr_65 1 = js_sw [(22, 88), (23, 105), (24, 112), (25, 129), (26, 144), (27, 161), (28, 176), (29, 183), (30, 191), (31, 198), (32, 205), (33, 213), (34, 220), (35, 227), (36, 235), (37, 257), (38, 257), (39, 248)] 257 := rfl
theorem kr_65_88 : ja_code tr_65 88 = js_aload 0 89 := rfl
theorem kr_65_89 : ja_code tr_65 89 = js_ic 23 91 := rfl
theorem kr_65_91 : ja_code tr_65 91 = js_ic 0 92 := rfl
theorem kr_65_92 : ja_code tr_65 92 = js_cv jl_r 0 11 2 95 := rfl
theorem kr_65_95 : ja_code tr_65 95 = js_aload 0 96 := rfl
theorem kr_65_96 : ja_code tr_65 96 = js_ic 24 98 := rfl
theorem kr_65_98 : ja_code tr_65 98 = js_ic 0 99 := rfl
theorem kr_65_99 : ja_code tr_65 99 = js_cv jl_r 0 11 2 102 := rfl
theorem kr_65_102 : ja_code tr_65 102 = js_goto 272 := rfl
theorem kr_65_105 : ja_code tr_65 105 = js_aload 0 106 := rfl
theorem kr_65_106 : ja_code tr_65 106 = js_cv jl_r 0 49 0 109 := rfl
theorem kr_65_109 : ja_code tr_65 109 = js_goto 272 := rfl
theorem kr_65_112 : ja_code tr_65 112 = js_aload 0 113 := rfl
theorem kr_65_113 : ja_code tr_65 113 = js_ic 25 115 := rfl
theorem kr_65_115 : ja_code tr_65 115 = js_ic 0 116 := rfl
theorem kr_65_116 : ja_code tr_65 116 = js_cv jl_r 0 11 2 119 := rfl
theorem kr_65_119 : ja_code tr_65 119 = js_aload 0 120 := rfl
theorem kr_65_120 : ja_code tr_65 120 = js_ic 26 122 := rfl
theorem kr_65_122 : ja_code tr_65 122 = js_ic 0 123 := rfl
theorem kr_65_123 : ja_code tr_65 123 = js_cv jl_r 0 11 2 126 := rfl
theorem kr_65_126 : ja_code tr_65 126 = js_goto 272 := rfl
theorem kr_65_129 : ja_code tr_65 129 = js_aload 0 130 := rfl
theorem kr_65_130 : ja_code tr_65 130 = js_ic 43 132 := rfl
theorem kr_65_132 : ja_code tr_65 132 = js_ic 45 134 := rfl
theorem kr_65_134 : ja_code tr_65 134 = js_ic 26 136 := rfl
theorem kr_65_136 : ja_code tr_65 136 = js_ic 25 138 := rfl
theorem kr_65_138 : ja_code tr_65 138 = js_cv jl_r 0 50 4 141 := rfl
theorem kr_65_141 : ja_code tr_65 141 = js_goto 272 := rfl
theorem kr_65_144 : ja_code tr_65 144 = js_aload 0 145 := rfl
theorem kr_65_145 : ja_code tr_65 145 = js_ic 27 147 := rfl
theorem kr_65_147 : ja_code tr_65 147 = js_ic 0 148 := rfl
theorem kr_65_148 : ja_code tr_65 148 = js_cv jl_r 0 11 2 151 := rfl
theorem kr_65_151 : ja_code tr_65 151 = js_aload 0 152 := rfl
theorem kr_65_152 : ja_code tr_65 152 = js_ic 28 154 := rfl
theorem kr_65_154 : ja_code tr_65 154 = js_ic 0 155 := rfl
theorem kr_65_155 : ja_code tr_65 155 = js_cv jl_r 0 11 2 158 := rfl
theorem kr_65_158 : ja_code tr_65 158 = js_goto 272 := rfl
theorem kr_65_161 : ja_code tr_65 161 = js_aload 0 162 := rfl
theorem kr_65_162 : ja_code tr_65 162 = js_ic 42 164 := rfl
theorem kr_65_164 : ja_code tr_65 164 = js_ic 47 166 := rfl
theorem kr_65_166 : ja_code tr_65 166 = js_ic 28 168 := rfl
theorem kr_65_168 : ja_code tr_65 168 = js_ic 27 170 := rfl
theorem kr_65_170 : ja_code tr_65 170 = js_cv jl_r 0 50 4 173 := rfl
theorem kr_65_173 : ja_code tr_65 173 = js_goto 272 := rfl
theorem kr_65_176 : ja_code tr_65 176 = js_aload 0 177 := rfl
theorem kr_65_177 : ja_code tr_65 177 = js_cv jl_r 0 53 0 180 := rfl
theorem kr_65_180 : ja_code tr_65 180 = js_goto 272 := rfl
theorem kr_65_183 : ja_code tr_65 183 = js_aload 0 184 := rfl
theorem kr_65_184 : ja_code tr_65 184 = js_iload 2 185 := rfl
theorem kr_65_185 : ja_code tr_65 185 = js_cv jl_r 0 54 1 188 := rfl
theorem kr_65_188 : ja_code tr_65 188 = js_goto 272 := rfl
theorem kr_65_191 : ja_code tr_65 191 = js_aload 0 192 := rfl
theorem kr_65_192 : ja_code tr_65 192 = js_cv jl_r 0 55 0 195 := rfl
theorem kr_65_195 : ja_code tr_65 195 = js_goto 272 := rfl
theorem kr_65_198 : ja_code tr_65 198 = js_aload 0 199 := rfl
theorem kr_65_199 : ja_code tr_65 199 = js_cv jl_r 0 57 0 202 := rfl
theorem kr_65_202 : ja_code tr_65 202 = js_goto 272 := rfl
theorem kr_65_205 : ja_code tr_65 205 = js_aload 0 206 := rfl
theorem kr_65_206 : ja_code tr_65 206 = js_iload 2 207 := rfl
theorem kr_65_207 : ja_code tr_65 207 = js_cv jl_r 0 56 1 210 := rfl
theorem kr_65_210 : ja_code tr_65 210 = js_goto 272 := rfl
theorem kr_65_213 : ja_code tr_65 213 = js_aload 0 214 := rfl
theorem kr_65_214 : ja_code tr_65 214 = js_cv jl_r 0 58 0 217 := rfl
theorem kr_65_217 : ja_code tr_65 217 = js_goto 272 := rfl
theorem kr_65_220 : ja_code tr_65 220 = js_aload 0 221 := rfl
theorem kr_65_221 : ja_code tr_65 221 = js_cv jl_r 0 59 0 224 := rfl
theorem kr_65_224 : ja_code tr_65 224 = js_goto 272 := rfl
theorem kr_65_227 : ja_code tr_65 227 = js_aload 0 228 := rfl
theorem kr_65_228 : ja_code tr_65 228 = js_iload 2 229 := rfl
theorem kr_65_229 : ja_code tr_65 229 = js_cv jl_r 0 60 1 232 := rfl
theorem kr_65_232 : ja_code tr_65 232 = js_goto 272 := rfl
theorem kr_65_235 : ja_code tr_65 235 = js_aload 0 236 := rfl
theorem kr_65_236 : ja_code tr_65 236 = js_iload 2 237 := rfl
theorem kr_65_237 : ja_code tr_65 237 = js_cv jl_r 0 26 1 240 := rfl
theorem kr_65_240 : ja_code tr_65 240 = js_aload 0 241 := rfl
theorem kr_65_241 : ja_code tr_65 241 = js_ic 0 242 := rfl
theorem kr_65_242 : ja_code tr_65 242 = js_putz jl_r 0 37 245 := rfl
theorem kr_65_245 : ja_code tr_65 245 = js_goto 272 := rfl
theorem kr_65_248 : ja_code tr_65 248 = js_aload 0 249 := rfl
theorem kr_65_249 : ja_code tr_65 249 = js_iload 2 250 := rfl
theorem kr_65_250 : ja_code tr_65 250 = js_ic 0 251 := rfl
theorem kr_65_251 : ja_code tr_65 251 = js_cv jl_r 0 16 2 254 := rfl
theorem kr_65_254 : ja_code tr_65 254 = js_goto 272 := rfl
theorem kr_65_257 : ja_code tr_65 257 = js_aload 0 258 := rfl
theorem kr_65_258 : ja_code tr_65 258 = js_iload 1 259 := rfl
theorem kr_65_259 : ja_code tr_65 259 = js_ic 37 261 := rfl
theorem kr_65_261 : ja_code tr_65 261 = js_ic2 (fun x y => x = y) 264 268 := rfl
theorem kr_65_264 : ja_code tr_65 264 = js_ic 1 265 := rfl
theorem kr_65_265 : ja_code tr_65 265 = js_goto 269 := rfl
theorem kr_65_268 : ja_code tr_65 268 = js_ic 0 269 := rfl
theorem kr_65_269 : ja_code tr_65 269 = js_putz jl_r 0 37 272 := rfl
theorem kr_65_272 : ja_code tr_65 272 = js_ret := rfl
theorem kr_66_0 : ja_code tr_66 0 = js_aload 0 1 := rfl
theorem kr_66_1 : ja_code tr_66 1 = js_ic 0 2 := rfl
theorem kr_66_2 : ja_code tr_66 2 = js_putz jl_r 0 11 5 := rfl
theorem kr_66_5 : ja_code tr_66 5 = js_aload 0 6 := rfl
theorem kr_66_6 : ja_code tr_66 6 = js_ic (-1) 7 := rfl
theorem kr_66_7 : ja_code tr_66 7 = js_put jl_r 0 10 10 := rfl
theorem kr_66_10 : ja_code tr_66 10 = js_aload 0 11 := rfl
theorem kr_66_11 : ja_code tr_66 11 = js_ic 0 12 := rfl
theorem kr_66_12 : ja_code tr_66 12 = js_put jl_r 0 20 15 := rfl
theorem kr_66_15 : ja_code tr_66 15 = js_aload 0 16 := rfl
theorem kr_66_16 : ja_code tr_66 16 = js_ic 0 17 := rfl
theorem kr_66_17 : ja_code tr_66 17 = js_put jl_r 0 27 20 := rfl
theorem kr_66_20 : ja_code tr_66 20 = js_aload 0 21 := rfl
theorem kr_66_21 : ja_code tr_66 21 = js_ic 0 22 := rfl
theorem kr_66_22 : ja_code tr_66 22 = js_put jl_r 0 38 25 := rfl
theorem kr_66_25 : ja_code tr_66 25 = js_aload 0 26 := rfl
theorem kr_66_26 : ja_code tr_66 26 = js_ic 1 27 := rfl
theorem kr_66_27 : ja_code tr_66 27 = js_put jl_r 0 17 30 := rfl
theorem kr_66_30 : ja_code tr_66 30 = js_aload 0 31 := rfl
theorem kr_66_31 : ja_code tr_66 31 = js_ic 1 32 := rfl
theorem kr_66_32 : ja_code tr_66 32 = js_put jl_r 0 18 35 := rfl
theorem kr_66_35 : ja_code tr_66 35 = js_aload 0 36 := rfl
theorem kr_66_36 : ja_code tr_66 36 = js_get jl_r 0 19 39 := rfl
theorem kr_66_39 : ja_code tr_66 39 = js_ic 0 40 := rfl
theorem kr_66_40 : ja_code tr_66 40 = js_ic 0 41 := rfl
theorem kr_66_41 : ja_code tr_66 41 = js_ast jl_r 42 := rfl
theorem kr_66_42 : ja_code tr_66 42 = js_aload 0 43 := rfl
theorem kr_66_43 : ja_code tr_66 43 = js_ic 0 44 := rfl
theorem kr_66_44 : ja_code tr_66 44 = js_put jl_r 0 15 47 := rfl
theorem kr_66_47 : ja_code tr_66 47 = js_aload 0 48 := rfl
theorem kr_66_48 : ja_code tr_66 48 = js_ic 0 49 := rfl
theorem kr_66_49 : ja_code tr_66 49 = js_put jl_r 0 9 52 := rfl
theorem kr_66_52 : ja_code tr_66 52 = js_aload 0 53 := rfl
theorem kr_66_53 : ja_code tr_66 53 = js_ic 0 54 := rfl
theorem kr_66_54 : ja_code tr_66 54 = js_put jl_r 0 12 57 := rfl
theorem kr_66_57 : ja_code tr_66 57 = js_aload 0 58 := rfl
theorem kr_66_58 : ja_code tr_66 58 = js_ic 0 59 := rfl
theorem kr_66_59 : ja_code tr_66 59 = js_put jl_r 0 35 62 := rfl
theorem kr_66_62 : ja_code tr_66 62 = js_aload 0 63 := rfl
theorem kr_66_63 : ja_code tr_66 63 = js_ic 0 64 := rfl
theorem kr_66_64 : ja_code tr_66 64 = js_putz jl_r 0 16 67 := rfl
theorem kr_66_67 : ja_code tr_66 67 = js_ret := rfl
theorem kr_67_0 : ja_code tr_67 0 = js_aload 0 1 := rfl
theorem kr_67_1 : ja_code tr_67 1 = js_ic 0 2 := rfl
theorem kr_67_2 : ja_code tr_67 2 = js_put jl_r 0 0 5 := rfl
theorem kr_67_5 : ja_code tr_67 5 = js_aload 0 6 := rfl
theorem kr_67_6 : ja_code tr_67 6 = js_cv jl_r 0 10 0 9 := rfl
theorem kr_67_9 : ja_code tr_67 9 = js_aload 0 10 := rfl
theorem kr_67_10 : ja_code tr_67 10 = js_cv jl_r 0 66 0 13 := rfl
theorem kr_67_13 : ja_code tr_67 13 = js_aload 0 14 := rfl
theorem kr_67_14 : ja_code tr_67 14 = js_ic 1 15 := rfl
theorem kr_67_15 : ja_code tr_67 15 = js_ic 0 16 := rfl
theorem kr_67_16 : ja_code tr_67 16 = js_cv jl_r 0 11 2 19 := rfl
theorem kr_67_19 : ja_code tr_67 19 = js_aload 0 20 := rfl
theorem kr_67_20 : ja_code tr_67 20 = js_get jl_r 0 12 23 := rfl
theorem kr_67_23 : ja_code tr_67 23 = js_if (fun x => x ≤ 0) 102 26 := rfl
theorem kr_67_26 : ja_code tr_67 26 = js_aload 0 27 := rfl
theorem kr_67_27 : ja_code tr_67 27 = js_get jl_r 0 16 30 := rfl
theorem kr_67_30 : ja_code tr_67 30 = js_if (fun x => x = 0) 33 102 := rfl
theorem kr_67_33 : ja_code tr_67 33 = js_aload 0 34 := rfl
theorem kr_67_34 : ja_code tr_67 34 = js_dup 35 := rfl
theorem kr_67_35 : ja_code tr_67 35 = js_get jl_r 0 12 38 := rfl
theorem kr_67_38 : ja_code tr_67 38 = js_ic 1 39 := rfl
theorem kr_67_39 : ja_code tr_67 39 = js_ib (fun x y => x - y) 40 := rfl
theorem kr_67_40 : ja_code tr_67 40 = js_put jl_r 0 12 43 := rfl
theorem kr_67_43 : ja_code tr_67 43 = js_aload 0 44 := rfl
theorem kr_67_44 : ja_code tr_67 44 = js_get jl_r 0 13 47 := rfl
theorem kr_67_47 : ja_code tr_67 47 = js_aload 0 48 := rfl
theorem kr_67_48 : ja_code tr_67 48 = js_get jl_r 0 12 51 := rfl
theorem kr_67_51 : ja_code tr_67 51 = js_ald jl_r 0 52 := rfl
theorem kr_67_52 : ja_code tr_67 52 = js_istore 1 53 := rfl
theorem kr_67_53 : ja_code tr_67 53 = js_aload 0 54 := rfl
theorem kr_67_54 : ja_code tr_67 54 = js_get jl_r 0 14 57 := rfl
theorem kr_67_57 : ja_code tr_67 57 = js_aload 0 58 := rfl
theorem kr_67_58 : ja_code tr_67 58 = js_get jl_r 0 12 61 := rfl
theorem kr_67_61 : ja_code tr_67 61 = js_ald jl_r 0 62 := rfl
theorem kr_67_62 : ja_code tr_67 62 = js_istore 2 63 := rfl
theorem kr_67_63 : ja_code tr_67 63 = js_iload 1 64 := rfl
theorem kr_67_64 : ja_code tr_67 64 = js_ic 15 66 := rfl
theorem kr_67_66 : ja_code tr_67 66 = js_ic2 (fun x y => y ≤ x) 78 69 := rfl
theorem kr_67_69 : ja_code tr_67 69 = js_aload 0 70 := rfl
theorem kr_67_70 : ja_code tr_67 70 = js_iload 1 71 := rfl
theorem kr_67_71 : ja_code tr_67 71 = js_iload 2 72 := rfl
theorem kr_67_72 : ja_code tr_67 72 = js_cv jl_r 0 63 2 75 := rfl
theorem kr_67_75 : ja_code tr_67 75 = js_goto 99 := rfl
theorem kr_67_78 : ja_code tr_67 78 = js_iload 1 79 := rfl
theorem kr_67_79 : ja_code tr_67 79 = js_ic 22 81 := rfl
theorem kr_67_81 : ja_code tr_67 81 = js_ic2 (fun x y => y ≤ x) 93 84 := rfl
theorem kr_67_84 : ja_code tr_67 84 = js_aload 0 85 := rfl
theorem kr_67_85 : ja_code tr_67 85 = js_iload 1 86 := rfl
theorem kr_67_86 : ja_code tr_67 86 = js_iload 2 87 := rfl
theorem kr_67_87 : ja_code tr_67 87 = js_cv jl_r 0 64 2 90 := rfl
theorem kr_67_90 : ja_code tr_67 90 = js_goto 99 := rfl
theorem kr_67_93 : ja_code tr_67 93 = js_aload 0 94 := rfl
theorem kr_67_94 : ja_code tr_67 94 = js_iload 1 95 := rfl
theorem kr_67_95 : ja_code tr_67 95 = js_iload 2 96 := rfl
theorem kr_67_96 : ja_code tr_67 96 = js_cv jl_r 0 65 2 99 := rfl
theorem kr_67_99 : ja_code tr_67 99 = js_goto 19 := rfl
theorem kr_67_102 : ja_code tr_67 102 = js_aload 0 103 := rfl
theorem kr_67_103 : ja_code tr_67 103 = js_get jl_r 0 16 106 := rfl
theorem kr_67_106 : ja_code tr_67 106 = js_if (fun x => x = 0) 125 109 := rfl
theorem kr_67_109 : ja_code tr_67 109 = js_aload 0 110 := rfl
theorem kr_67_110 : ja_code tr_67 110 = js_ic 0 111 := rfl
theorem kr_67_111 : ja_code tr_67 111 = js_put jl_r 0 20 114 := rfl
theorem kr_67_114 : ja_code tr_67 114 = js_aload 0 115 := rfl
theorem kr_67_115 : ja_code tr_67 115 = js_ic 0 116 := rfl
theorem kr_67_116 : ja_code tr_67 116 = js_put jl_r 0 38 119 := rfl
theorem kr_67_119 : ja_code tr_67 119 = js_aload 0 120 := rfl
theorem kr_67_120 : ja_code tr_67 120 = js_ic 1 121 := rfl
theorem kr_67_121 : ja_code tr_67 121 = js_cv jl_r 0 1 1 124 := rfl
theorem kr_67_124 : ja_code tr_67 124 = js_iret := rfl
theorem kr_67_125 : ja_code tr_67 125 = js_aload 0 126 := rfl
theorem kr_67_126 : ja_code tr_67 126 = js_ic 1 127 := rfl
theorem kr_67_127 : ja_code tr_67 127 = js_putz jl_r 0 11 130 := rfl
theorem kr_67_130 : ja_code tr_67 130 = js_aload 0 131 := rfl
theorem kr_67_131 : ja_code tr_67 131 = js_get jl_r 0 3 134 := rfl
theorem kr_67_134 : ja_code tr_67 134 = js_iret := rfl
theorem kr_68_0 : ja_code tr_68 0 = js_aload 0 1 := rfl
theorem kr_68_1 : ja_code tr_68 1 = js_ic 0 2 := rfl
theorem kr_68_2 : ja_code tr_68 2 = js_put jl_r 0 0 5 := rfl
theorem kr_68_5 : ja_code tr_68 5 = js_aload 0 6 := rfl
theorem kr_68_6 : ja_code tr_68 6 = js_get jl_r 0 10 9 := rfl
theorem kr_68_9 : ja_code tr_68 9 = js_iret := rfl
theorem kr_69_0 : ja_code tr_69 0 = js_aload 0 1 := rfl
theorem kr_69_1 : ja_code tr_69 1 = js_get jl_r 0 11 4 := rfl
theorem kr_69_4 : ja_code tr_69 4 = js_if (fun x => x = 0) 23 7 := rfl
theorem kr_69_7 : ja_code tr_69 7 = js_iload 1 8 := rfl
theorem kr_69_8 : ja_code tr_69 8 = js_if (fun x => x < 0) 23 11 := rfl
theorem kr_69_11 : ja_code tr_69 11 = js_iload 1 12 := rfl
theorem kr_69_12 : ja_code tr_69 12 = js_aload 0 13 := rfl
theorem kr_69_13 : ja_code tr_69 13 = js_get jl_r 0 3 16 := rfl
theorem kr_69_16 : ja_code tr_69 16 = js_ic2 (fun x y => y ≤ x) 23 19 := rfl
theorem kr_69_19 : ja_code tr_69 19 = js_ic 1 20 := rfl
theorem kr_69_20 : ja_code tr_69 20 = js_goto 24 := rfl
theorem kr_69_23 : ja_code tr_69 23 = js_ic 0 24 := rfl
theorem kr_69_24 : ja_code tr_69 24 = js_zret := rfl
theorem kr_70_0 : ja_code tr_70 0 = js_aload 0 1 := rfl
theorem kr_70_1 : ja_code tr_70 1 = js_ic 0 2 := rfl
theorem kr_70_2 : ja_code tr_70 2 = js_put jl_r 0 0 5 := rfl
theorem kr_70_5 : ja_code tr_70 5 = js_aload 0 6 := rfl
theorem kr_70_6 : ja_code tr_70 6 = js_iload 1 7 := rfl
theorem kr_70_7 : ja_code tr_70 7 = js_cv jl_r 0 69 1 10 := rfl
theorem kr_70_10 : ja_code tr_70 10 = js_if (fun x => x = 0) 22 13 := rfl
theorem kr_70_13 : ja_code tr_70 13 = js_aload 0 14 := rfl
theorem kr_70_14 : ja_code tr_70 14 = js_get jl_r 0 7 17 := rfl
theorem kr_70_17 : ja_code tr_70 17 = js_iload 1 18 := rfl
theorem kr_70_18 : ja_code tr_70 18 = js_ald jl_r 0 19 := rfl
theorem kr_70_19 : ja_code tr_70 19 = js_goto 23 := rfl
theorem kr_70_22 : ja_code tr_70 22 = js_ic (-1) 23 := rfl
theorem kr_70_23 : ja_code tr_70 23 = js_iret := rfl
theorem kr_71_0 : ja_code tr_71 0 = js_aload 0 1 := rfl
theorem kr_71_1 : ja_code tr_71 1 = js_ic 0 2 := rfl
theorem kr_71_2 : ja_code tr_71 2 = js_put jl_r 0 0 5 := rfl
theorem kr_71_5 : ja_code tr_71 5 = js_aload 0 6 := rfl
theorem kr_71_6 : ja_code tr_71 6 = js_iload 1 7 := rfl
theorem kr_71_7 : ja_code tr_71 7 = js_cv jl_r 0 69 1 10 := rfl
theorem kr_71_10 : ja_code tr_71 10 = js_if (fun x => x = 0) 22 13 := rfl
theorem kr_71_13 : ja_code tr_71 13 = js_aload 0 14 := rfl
theorem kr_71_14 : ja_code tr_71 14 = js_get jl_r 0 8 17 := rfl
theorem kr_71_17 : ja_code tr_71 17 = js_iload 1 18 := rfl
theorem kr_71_18 : ja_code tr_71 18 = js_ald jl_r 0 19 := rfl
theorem kr_71_19 : ja_code tr_71 19 = js_goto 23 := rfl
theorem kr_71_22 : ja_code tr_71 22 = js_ic (-1) 23 := rfl
theorem kr_71_23 : ja_code tr_71 23 = js_iret := rfl
theorem kr_72_0 : ja_code tr_72 0 = js_aload 0 1 := rfl
theorem kr_72_1 : ja_code tr_72 1 = js_ic 0 2 := rfl
theorem kr_72_2 : ja_code tr_72 2 = js_put jl_r 0 0 5 := rfl
theorem kr_72_5 : ja_code tr_72 5 = js_aload 0 6 := rfl
theorem kr_72_6 : ja_code tr_72 6 = js_get jl_r 0 20 9 := rfl
theorem kr_72_9 : ja_code tr_72 9 = js_iret := rfl
theorem kr_73_0 : ja_code tr_73 0 = js_aload 0 1 := rfl
theorem kr_73_1 : ja_code tr_73 1 = js_iload 1 2 := rfl
theorem kr_73_2 : ja_code tr_73 2 = js_if (fun x => x < 0) 22 5 := rfl
theorem kr_73_5 : ja_code tr_73 5 = js_iload 1 6 := rfl
theorem kr_73_6 : ja_code tr_73 6 = js_aload 0 7 := rfl
theorem kr_73_7 : ja_code tr_73 7 = js_get jl_r 0 20 10 := rfl
theorem kr_73_10 : ja_code tr_73 10 = js_ic2 (fun x y => y ≤ x) 22 13 := rfl
theorem kr_73_13 : ja_code tr_73 13 = js_iload 2 14 := rfl
theorem kr_73_14 : ja_code tr_73 14 = js_if (fun x => x < 0) 22 17 := rfl
theorem kr_73_17 : ja_code tr_73 17 = js_iload 2 18 := rfl
theorem kr_73_18 : ja_code tr_73 18 = js_ic 3 19 := rfl
theorem kr_73_19 : ja_code tr_73 19 = js_ic2 (fun x y => x ≤ y) 26 22 := rfl
theorem kr_73_22 : ja_code tr_73 22 = js_ic 1 23 := rfl
theorem kr_73_23 : ja_code tr_73 23 = js_goto 27 := rfl
theorem kr_73_26 : ja_code tr_73 26 = js_ic 0 27 := rfl
theorem kr_73_27 : ja_code tr_73 27 = js_put jl_r 0 0 30 := rfl
theorem kr_73_30 : ja_code tr_73 30 = js_aload 0 31 := rfl
theorem kr_73_31 : ja_code tr_73 31 = js_get jl_r 0 0 34 := rfl
theorem kr_73_34 : ja_code tr_73 34 = js_if (fun x => x ≤ 0) 39 37 := rfl
theorem kr_73_37 : ja_code tr_73 37 = js_ic 0 38 := rfl
theorem kr_73_38 : ja_code tr_73 38 = js_iret := rfl
theorem kr_73_39 : ja_code tr_73 39 = js_iload 2 40 := rfl
theorem kr_73_40 : ja_code tr_73 40 = js_if (fun x => x = 0) 43 52 := rfl
theorem kr_73_43 : ja_code tr_73 43 = js_aload 0 44 := rfl
theorem kr_73_44 : ja_code tr_73 44 = js_get jl_r 0 21 47 := rfl
theorem kr_73_47 : ja_code tr_73 47 = js_iload 1 48 := rfl
theorem kr_73_48 : ja_code tr_73 48 = js_ald jl_r 0 49 := rfl
theorem kr_73_49 : ja_code tr_73 49 = js_goto 86 := rfl
theorem kr_73_52 : ja_code tr_73 52 = js_iload 2 53 := rfl
theorem kr_73_53 : ja_code tr_73 53 = js_ic 1 54 := rfl
theorem kr_73_54 : ja_code tr_73 54 = js_ic2 (fun x y => x = y) 57 66 := rfl
theorem kr_73_57 : ja_code tr_73 57 = js_aload 0 58 := rfl
theorem kr_73_58 : ja_code tr_73 58 = js_get jl_r 0 23 61 := rfl
theorem kr_73_61 : ja_code tr_73 61 = js_iload 1 62 := rfl
theorem kr_73_62 : ja_code tr_73 62 = js_ald jl_r 0 63 := rfl
theorem kr_73_63 : ja_code tr_73 63 = js_goto 86 := rfl
theorem kr_73_66 : ja_code tr_73 66 = js_iload 2 67 := rfl
theorem kr_73_67 : ja_code tr_73 67 = js_ic 2 68 := rfl
theorem kr_73_68 : ja_code tr_73 68 = js_ic2 (fun x y => x = y) 71 80 := rfl
theorem kr_73_71 : ja_code tr_73 71 = js_aload 0 72 := rfl
theorem kr_73_72 : ja_code tr_73 72 = js_get jl_r 0 26 75 := rfl
theorem kr_73_75 : ja_code tr_73 75 = js_iload 1 76 := rfl
theorem kr_73_76 : ja_code tr_73 76 = js_ald jl_r 0 77 := rfl
theorem kr_73_77 : ja_code tr_73 77 = js_goto 86 := rfl
theorem kr_73_80 : ja_code tr_73 80 = js_aload 0 81 := rfl
theorem kr_73_81 : ja_code tr_73 81 = js_get jl_r 0 24 84 := rfl
theorem kr_73_84 : ja_code tr_73 84 = js_iload 1 85 := rfl
theorem kr_73_85 : ja_code tr_73 85 = js_ald jl_r 0 86 := rfl
theorem kr_73_86 : ja_code tr_73 86 = js_iret := rfl
theorem kr_74_0 : ja_code tr_74 0 = js_aload 0 1 := rfl
theorem kr_74_1 : ja_code tr_74 1 = js_iload 1 2 := rfl
theorem kr_74_2 : ja_code tr_74 2 = js_if (fun x => x < 0) 27 5 := rfl
theorem kr_74_5 : ja_code tr_74 5 = js_iload 1 6 := rfl
theorem kr_74_6 : ja_code tr_74 6 = js_aload 0 7 := rfl
theorem kr_74_7 : ja_code tr_74 7 = js_get jl_r 0 20 10 := rfl
theorem kr_74_10 : ja_code tr_74 10 = js_ic2 (fun x y => y ≤ x) 27 13 := rfl
theorem kr_74_13 : ja_code tr_74 13 = js_iload 2 14 := rfl
theorem kr_74_14 : ja_code tr_74 14 = js_if (fun x => x < 0) 27 17 := rfl
theorem kr_74_17 : ja_code tr_74 17 = js_iload 2 18 := rfl
theorem kr_74_18 : ja_code tr_74 18 = js_aload 0 19 := rfl
theorem kr_74_19 : ja_code tr_74 19 = js_get jl_r 0 26 22 := rfl
theorem kr_74_22 : ja_code tr_74 22 = js_iload 1 23 := rfl
theorem kr_74_23 : ja_code tr_74 23 = js_ald jl_r 0 24 := rfl
theorem kr_74_24 : ja_code tr_74 24 = js_ic2 (fun x y => x < y) 31 27 := rfl
theorem kr_74_27 : ja_code tr_74 27 = js_ic 1 28 := rfl
theorem kr_74_28 : ja_code tr_74 28 = js_goto 32 := rfl
theorem kr_74_31 : ja_code tr_74 31 = js_ic 0 32 := rfl
theorem kr_74_32 : ja_code tr_74 32 = js_put jl_r 0 0 35 := rfl
theorem kr_74_35 : ja_code tr_74 35 = js_aload 0 36 := rfl
theorem kr_74_36 : ja_code tr_74 36 = js_get jl_r 0 0 39 := rfl
theorem kr_74_39 : ja_code tr_74 39 = js_if (fun x => x = 0) 42 58 := rfl
theorem kr_74_42 : ja_code tr_74 42 = js_aload 0 43 := rfl
theorem kr_74_43 : ja_code tr_74 43 = js_get jl_r 0 28 46 := rfl
theorem kr_74_46 : ja_code tr_74 46 = js_aload 0 47 := rfl
theorem kr_74_47 : ja_code tr_74 47 = js_get jl_r 0 25 50 := rfl
theorem kr_74_50 : ja_code tr_74 50 = js_iload 1 51 := rfl
theorem kr_74_51 : ja_code tr_74 51 = js_ald jl_r 0 52 := rfl
theorem kr_74_52 : ja_code tr_74 52 = js_iload 2 53 := rfl
theorem kr_74_53 : ja_code tr_74 53 = js_ib (fun x y => x + y) 54 := rfl
theorem kr_74_54 : ja_code tr_74 54 = js_ald jl_r 0 55 := rfl
theorem kr_74_55 : ja_code tr_74 55 = js_goto 59 := rfl
theorem kr_74_58 : ja_code tr_74 58 = js_ic 0 59 := rfl
theorem kr_74_59 : ja_code tr_74 59 = js_iret := rfl
theorem kr_75_0 : ja_code tr_75 0 = js_aload 0 1 := rfl
theorem kr_75_1 : ja_code tr_75 1 = js_ic 0 2 := rfl
theorem kr_75_2 : ja_code tr_75 2 = js_put jl_r 0 0 5 := rfl
theorem kr_75_5 : ja_code tr_75 5 = js_aload 0 6 := rfl
theorem kr_75_6 : ja_code tr_75 6 = js_get jl_r 0 38 9 := rfl
theorem kr_75_9 : ja_code tr_75 9 = js_iret := rfl
theorem kr_76_0 : ja_code tr_76 0 = js_aload 0 1 := rfl
theorem kr_76_1 : ja_code tr_76 1 = js_iload 1 2 := rfl
theorem kr_76_2 : ja_code tr_76 2 = js_if (fun x => x < 0) 13 5 := rfl
theorem kr_76_5 : ja_code tr_76 5 = js_iload 1 6 := rfl
theorem kr_76_6 : ja_code tr_76 6 = js_aload 0 7 := rfl
theorem kr_76_7 : ja_code tr_76 7 = js_get jl_r 0 38 10 := rfl
theorem kr_76_10 : ja_code tr_76 10 = js_ic2 (fun x y => x < y) 17 13 := rfl
theorem kr_76_13 : ja_code tr_76 13 = js_ic 1 14 := rfl
theorem kr_76_14 : ja_code tr_76 14 = js_goto 18 := rfl
theorem kr_76_17 : ja_code tr_76 17 = js_ic 0 18 := rfl
theorem kr_76_18 : ja_code tr_76 18 = js_put jl_r 0 0 21 := rfl
theorem kr_76_21 : ja_code tr_76 21 = js_aload 0 22 := rfl
theorem kr_76_22 : ja_code tr_76 22 = js_get jl_r 0 0 25 := rfl
theorem kr_76_25 : ja_code tr_76 25 = js_if (fun x => x = 0) 28 37 := rfl
theorem kr_76_28 : ja_code tr_76 28 = js_aload 0 29 := rfl
theorem kr_76_29 : ja_code tr_76 29 = js_get jl_r 0 39 32 := rfl
theorem kr_76_32 : ja_code tr_76 32 = js_iload 1 33 := rfl
theorem kr_76_33 : ja_code tr_76 33 = js_ald jl_r 0 34 := rfl
theorem kr_76_34 : ja_code tr_76 34 = js_goto 38 := rfl
theorem kr_76_37 : ja_code tr_76 37 = js_ic 0 38 := rfl
theorem kr_76_38 : ja_code tr_76 38 = js_iret := rfl
