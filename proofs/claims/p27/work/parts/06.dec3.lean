theorem dL_build_89 : decode cL_build 89 = .ok (.iload_n 3, 1) := by decide +kernel
theorem dL_build_90 : decode cL_build 90 = .ok (.if_icmp .ne 7, 3) := by decide +kernel
theorem dL_build_93 : decode cL_build 93 = .ok (.iconst 1, 1) := by decide +kernel
theorem dL_build_94 : decode cL_build 94 = .ok (.goto 4, 3) := by decide +kernel
theorem dL_build_97 : decode cL_build 97 = .ok (.iconst 0, 1) := by decide +kernel
theorem dL_build_98 : decode cL_build 98 = .ok (.ireturn, 1) := by decide +kernel
theorem dL_rise_0 : decode cL_rise 0 = .ok (.aload_n 1, 1) := by decide +kernel
theorem dL_rise_1 : decode cL_rise 1 = .ok (.iload_n 2, 1) := by decide +kernel
theorem dL_rise_2 : decode cL_rise 2 = .ok (.iconst 1, 1) := by decide +kernel
theorem dL_rise_3 : decode cL_rise 3 = .ok (.iadd, 1) := by decide +kernel
theorem dL_rise_4 : decode cL_rise 4 = .ok (.daload, 1) := by decide +kernel
theorem dL_rise_5 : decode cL_rise 5 = .ok (.aload_n 1, 1) := by decide +kernel
theorem dL_rise_6 : decode cL_rise 6 = .ok (.iload_n 2, 1) := by decide +kernel
theorem dL_rise_7 : decode cL_rise 7 = .ok (.daload, 1) := by decide +kernel
theorem dL_rise_8 : decode cL_rise 8 = .ok (.dsub, 1) := by decide +kernel
theorem dL_rise_9 : decode cL_rise 9 = .ok (.aload_n 0, 1) := by decide +kernel
theorem dL_rise_10 : decode cL_rise 10 = .ok (.iload_n 2, 1) := by decide +kernel
theorem dL_rise_11 : decode cL_rise 11 = .ok (.iconst 1, 1) := by decide +kernel
theorem dL_rise_12 : decode cL_rise 12 = .ok (.iadd, 1) := by decide +kernel
theorem dL_rise_13 : decode cL_rise 13 = .ok (.daload, 1) := by decide +kernel
theorem dL_rise_14 : decode cL_rise 14 = .ok (.aload_n 0, 1) := by decide +kernel
theorem dL_rise_15 : decode cL_rise 15 = .ok (.iload_n 2, 1) := by decide +kernel
theorem dL_rise_16 : decode cL_rise 16 = .ok (.daload, 1) := by decide +kernel
theorem dL_rise_17 : decode cL_rise 17 = .ok (.dsub, 1) := by decide +kernel
theorem dL_rise_18 : decode cL_rise 18 = .ok (.ddiv, 1) := by decide +kernel
theorem dL_rise_19 : decode cL_rise 19 = .ok (.dreturn, 1) := by decide +kernel
set_option maxRecDepth 20000 in
theorem ggL_slope_L_rise : GoodIn wsL_slope wsL_rise := goodIn_r _ [6] (by decide +kernel) (by decide +kernel)
set_option maxRecDepth 20000 in
theorem gL_slope_L_rise : GoodIn wsL_slope (va_wsS RL 29 yL_rise wsL_rise) := goodIn_app (goodIn_of _ (by decide +kernel)) ggL_slope_L_rise
set_option maxRecDepth 20000 in
theorem ggL_slope_J9_min_eb370 : GoodIn wsL_slope wsJ9_min_eb370 := goodIn_r _ [10, 11, 12, 13, 14, 15] (by decide +kernel) (by decide +kernel)
set_option maxRecDepth 20000 in
theorem gL_slope_J9_min_eb370 : GoodIn wsL_slope (va_wsS RL 35 yJ9_min_eb370 wsJ9_min_eb370) := goodIn_app (goodIn_of _ (by decide +kernel)) ggL_slope_J9_min_eb370
theorem dL_slope_0 : decode cL_slope 0 = .ok (.iload 4, 2) := by decide +kernel
theorem dL_slope_2 : decode cL_slope 2 = .ok (.ifCond .eq 11, 3) := by decide +kernel
theorem dL_slope_5 : decode cL_slope 5 = .ok (.iload 4, 2) := by decide +kernel
theorem dL_slope_7 : decode cL_slope 7 = .ok (.iload_n 3, 1) := by decide +kernel
theorem dL_slope_8 : decode cL_slope 8 = .ok (.iconst 1, 1) := by decide +kernel
theorem dL_slope_9 : decode cL_slope 9 = .ok (.isub, 1) := by decide +kernel
theorem dL_slope_10 : decode cL_slope 10 = .ok (.if_icmp .ne 29, 3) := by decide +kernel
theorem dL_slope_13 : decode cL_slope 13 = .ok (.aload_n 0, 1) := by decide +kernel
theorem dL_slope_14 : decode cL_slope 14 = .ok (.aload_n 1, 1) := by decide +kernel
theorem dL_slope_15 : decode cL_slope 15 = .ok (.iload 4, 2) := by decide +kernel
theorem dL_slope_17 : decode cL_slope 17 = .ok (.ifCond .ne 7, 3) := by decide +kernel
theorem dL_slope_20 : decode cL_slope 20 = .ok (.iconst 0, 1) := by decide +kernel
theorem dL_slope_21 : decode cL_slope 21 = .ok (.goto 6, 3) := by decide +kernel
theorem dL_slope_24 : decode cL_slope 24 = .ok (.iload_n 3, 1) := by decide +kernel
theorem dL_slope_25 : decode cL_slope 25 = .ok (.iconst 2, 1) := by decide +kernel
theorem dL_slope_26 : decode cL_slope 26 = .ok (.isub, 1) := by decide +kernel
theorem dL_slope_27 : decode cL_slope 27 = .ok (.invokestatic 29, 3) := by decide +kernel
theorem dL_slope_30 : decode cL_slope 30 = .ok (.dstore 7, 2) := by decide +kernel
theorem dL_slope_32 : decode cL_slope 32 = .ok (.dload 7, 2) := by decide +kernel
theorem dL_slope_34 : decode cL_slope 34 = .ok (.dstore 5, 2) := by decide +kernel
theorem dL_slope_36 : decode cL_slope 36 = .ok (.goto 117, 3) := by decide +kernel
theorem dL_slope_39 : decode cL_slope 39 = .ok (.aload_n 0, 1) := by decide +kernel
theorem dL_slope_40 : decode cL_slope 40 = .ok (.aload_n 1, 1) := by decide +kernel
theorem dL_slope_41 : decode cL_slope 41 = .ok (.iload 4, 2) := by decide +kernel
theorem dL_slope_43 : decode cL_slope 43 = .ok (.iconst 1, 1) := by decide +kernel
theorem dL_slope_44 : decode cL_slope 44 = .ok (.isub, 1) := by decide +kernel
theorem dL_slope_45 : decode cL_slope 45 = .ok (.invokestatic 29, 3) := by decide +kernel
theorem dL_slope_48 : decode cL_slope 48 = .ok (.dstore 9, 2) := by decide +kernel
theorem dL_slope_50 : decode cL_slope 50 = .ok (.aload_n 0, 1) := by decide +kernel
theorem dL_slope_51 : decode cL_slope 51 = .ok (.aload_n 1, 1) := by decide +kernel
theorem dL_slope_52 : decode cL_slope 52 = .ok (.iload 4, 2) := by decide +kernel
theorem dL_slope_54 : decode cL_slope 54 = .ok (.invokestatic 29, 3) := by decide +kernel
theorem dL_slope_57 : decode cL_slope 57 = .ok (.dstore 11, 2) := by decide +kernel
theorem dL_slope_59 : decode cL_slope 59 = .ok (.aload_n 0, 1) := by decide +kernel
theorem dL_slope_60 : decode cL_slope 60 = .ok (.iload 4, 2) := by decide +kernel
theorem dL_slope_62 : decode cL_slope 62 = .ok (.iconst 1, 1) := by decide +kernel
theorem dL_slope_63 : decode cL_slope 63 = .ok (.iadd, 1) := by decide +kernel
theorem dL_slope_64 : decode cL_slope 64 = .ok (.daload, 1) := by decide +kernel
theorem dL_slope_65 : decode cL_slope 65 = .ok (.aload_n 0, 1) := by decide +kernel
theorem dL_slope_66 : decode cL_slope 66 = .ok (.iload 4, 2) := by decide +kernel
theorem dL_slope_68 : decode cL_slope 68 = .ok (.daload, 1) := by decide +kernel
theorem dL_slope_69 : decode cL_slope 69 = .ok (.dsub, 1) := by decide +kernel
theorem dL_slope_70 : decode cL_slope 70 = .ok (.dstore 13, 2) := by decide +kernel
theorem dL_slope_72 : decode cL_slope 72 = .ok (.aload_n 0, 1) := by decide +kernel
theorem dL_slope_73 : decode cL_slope 73 = .ok (.iload 4, 2) := by decide +kernel
theorem dL_slope_75 : decode cL_slope 75 = .ok (.daload, 1) := by decide +kernel
theorem dL_slope_76 : decode cL_slope 76 = .ok (.aload_n 0, 1) := by decide +kernel
theorem dL_slope_77 : decode cL_slope 77 = .ok (.iload 4, 2) := by decide +kernel
theorem dL_slope_79 : decode cL_slope 79 = .ok (.iconst 1, 1) := by decide +kernel
theorem dL_slope_80 : decode cL_slope 80 = .ok (.isub, 1) := by decide +kernel
theorem dL_slope_81 : decode cL_slope 81 = .ok (.daload, 1) := by decide +kernel
theorem dL_slope_82 : decode cL_slope 82 = .ok (.dsub, 1) := by decide +kernel
theorem dL_slope_83 : decode cL_slope 83 = .ok (.dstore 15, 2) := by decide +kernel
theorem dL_slope_85 : decode cL_slope 85 = .ok (.ldc2_w 33, 3) := by decide +kernel
theorem dL_slope_88 : decode cL_slope 88 = .ok (.dload 13, 2) := by decide +kernel
theorem dL_slope_90 : decode cL_slope 90 = .ok (.dmul, 1) := by decide +kernel
theorem dL_slope_91 : decode cL_slope 91 = .ok (.dload 15, 2) := by decide +kernel
theorem dL_slope_93 : decode cL_slope 93 = .ok (.dadd, 1) := by decide +kernel
theorem dL_slope_94 : decode cL_slope 94 = .ok (.dstore 17, 2) := by decide +kernel
theorem dL_slope_96 : decode cL_slope 96 = .ok (.dload 13, 2) := by decide +kernel
theorem dL_slope_98 : decode cL_slope 98 = .ok (.ldc2_w 33, 3) := by decide +kernel
theorem dL_slope_101 : decode cL_slope 101 = .ok (.dload 15, 2) := by decide +kernel
theorem dL_slope_103 : decode cL_slope 103 = .ok (.dmul, 1) := by decide +kernel
theorem dL_slope_104 : decode cL_slope 104 = .ok (.dadd, 1) := by decide +kernel
theorem dL_slope_105 : decode cL_slope 105 = .ok (.dstore 19, 2) := by decide +kernel
theorem dL_slope_107 : decode cL_slope 107 = .ok (.dload 9, 2) := by decide +kernel
theorem dL_slope_109 : decode cL_slope 109 = .ok (.dload 11, 2) := by decide +kernel
theorem dL_slope_111 : decode cL_slope 111 = .ok (.invokestatic 35, 3) := by decide +kernel
theorem dL_slope_114 : decode cL_slope 114 = .ok (.dstore 7, 2) := by decide +kernel
theorem dL_slope_116 : decode cL_slope 116 = .ok (.dload 9, 2) := by decide +kernel
theorem dL_slope_118 : decode cL_slope 118 = .ok (.dconst 0, 1) := by decide +kernel
theorem dL_slope_119 : decode cL_slope 119 = .ok (.dcmp .l, 1) := by decide +kernel
theorem dL_slope_120 : decode cL_slope 120 = .ok (.ifCond .eq 10, 3) := by decide +kernel
theorem dL_slope_123 : decode cL_slope 123 = .ok (.dload 11, 2) := by decide +kernel
theorem dL_slope_125 : decode cL_slope 125 = .ok (.dconst 0, 1) := by decide +kernel
theorem dL_slope_126 : decode cL_slope 126 = .ok (.dcmp .l, 1) := by decide +kernel
theorem dL_slope_127 : decode cL_slope 127 = .ok (.ifCond .ne 7, 3) := by decide +kernel
theorem dL_slope_130 : decode cL_slope 130 = .ok (.dconst 0, 1) := by decide +kernel
theorem dL_slope_131 : decode cL_slope 131 = .ok (.goto 20, 3) := by decide +kernel
theorem dL_slope_134 : decode cL_slope 134 = .ok (.dload 17, 2) := by decide +kernel
theorem dL_slope_136 : decode cL_slope 136 = .ok (.dload 19, 2) := by decide +kernel
theorem dL_slope_138 : decode cL_slope 138 = .ok (.dadd, 1) := by decide +kernel
theorem dL_slope_139 : decode cL_slope 139 = .ok (.dload 17, 2) := by decide +kernel
theorem dL_slope_141 : decode cL_slope 141 = .ok (.dload 9, 2) := by decide +kernel
theorem dL_slope_143 : decode cL_slope 143 = .ok (.ddiv, 1) := by decide +kernel
theorem dL_slope_144 : decode cL_slope 144 = .ok (.dload 19, 2) := by decide +kernel
theorem dL_slope_146 : decode cL_slope 146 = .ok (.dload 11, 2) := by decide +kernel
theorem dL_slope_148 : decode cL_slope 148 = .ok (.ddiv, 1) := by decide +kernel
theorem dL_slope_149 : decode cL_slope 149 = .ok (.dadd, 1) := by decide +kernel
theorem dL_slope_150 : decode cL_slope 150 = .ok (.ddiv, 1) := by decide +kernel
theorem dL_slope_151 : decode cL_slope 151 = .ok (.dstore 5, 2) := by decide +kernel
theorem dL_slope_153 : decode cL_slope 153 = .ok (.aload_n 2, 1) := by decide +kernel
theorem dL_slope_154 : decode cL_slope 154 = .ok (.iload 4, 2) := by decide +kernel
theorem dL_slope_156 : decode cL_slope 156 = .ok (.daload, 1) := by decide +kernel
theorem dL_slope_157 : decode cL_slope 157 = .ok (.dconst 0, 1) := by decide +kernel
theorem dL_slope_158 : decode cL_slope 158 = .ok (.dcmp .l, 1) := by decide +kernel
theorem dL_slope_159 : decode cL_slope 159 = .ok (.ifCond .lt 9, 3) := by decide +kernel
theorem dL_slope_162 : decode cL_slope 162 = .ok (.aload_n 2, 1) := by decide +kernel
theorem dL_slope_163 : decode cL_slope 163 = .ok (.iload 4, 2) := by decide +kernel
theorem dL_slope_165 : decode cL_slope 165 = .ok (.daload, 1) := by decide +kernel
theorem dL_slope_166 : decode cL_slope 166 = .ok (.dstore 5, 2) := by decide +kernel
theorem dL_slope_168 : decode cL_slope 168 = .ok (.dload 5, 2) := by decide +kernel
theorem dL_slope_170 : decode cL_slope 170 = .ok (.ldc2_w 41, 3) := by decide +kernel
theorem dL_slope_173 : decode cL_slope 173 = .ok (.dload 7, 2) := by decide +kernel
theorem dL_slope_175 : decode cL_slope 175 = .ok (.dmul, 1) := by decide +kernel
theorem dL_slope_176 : decode cL_slope 176 = .ok (.invokestatic 35, 3) := by decide +kernel
theorem dL_slope_179 : decode cL_slope 179 = .ok (.dreturn, 1) := by decide +kernel
theorem dL_piece_0 : decode cL_piece 0 = .ok (.iload_n 1, 1) := by decide +kernel
theorem dL_piece_1 : decode cL_piece 1 = .ok (.iconst 2, 1) := by decide +kernel
theorem dL_piece_2 : decode cL_piece 2 = .ok (.isub, 1) := by decide +kernel
theorem dL_piece_3 : decode cL_piece 3 = .ok (.istore 4, 2) := by decide +kernel
theorem dL_piece_5 : decode cL_piece 5 = .ok (.iload 4, 2) := by decide +kernel
theorem dL_piece_7 : decode cL_piece 7 = .ok (.ifCond .le 18, 3) := by decide +kernel
theorem dL_piece_10 : decode cL_piece 10 = .ok (.aload_n 0, 1) := by decide +kernel
theorem dL_piece_11 : decode cL_piece 11 = .ok (.iload 4, 2) := by decide +kernel
theorem dL_piece_13 : decode cL_piece 13 = .ok (.daload, 1) := by decide +kernel
theorem dL_piece_14 : decode cL_piece 14 = .ok (.dload_n 2, 1) := by decide +kernel
theorem dL_piece_15 : decode cL_piece 15 = .ok (.dcmp .l, 1) := by decide +kernel
theorem dL_piece_16 : decode cL_piece 16 = .ok (.ifCond .le 9, 3) := by decide +kernel
theorem dL_piece_19 : decode cL_piece 19 = .ok (.iinc 4 (-1), 3) := by decide +kernel
theorem dL_piece_22 : decode cL_piece 22 = .ok (.goto (-17), 3) := by decide +kernel
theorem dL_piece_25 : decode cL_piece 25 = .ok (.iload 4, 2) := by decide +kernel
theorem dL_piece_27 : decode cL_piece 27 = .ok (.ireturn, 1) := by decide +kernel
set_option maxRecDepth 20000 in
theorem ggL_at_L_rise : GoodIn wsL_at wsL_rise := goodIn_r _ [7] (by decide +kernel) (by decide +kernel)
set_option maxRecDepth 20000 in
theorem gL_at_L_rise : GoodIn wsL_at (va_wsS RL 29 yL_rise wsL_rise) := goodIn_app (goodIn_of _ (by decide +kernel)) ggL_at_L_rise
set_option maxRecDepth 20000 in
theorem ggL_at_L_slope : GoodIn wsL_at wsL_slope := goodIn_r _ [10, 2, 1, 4, 5, 6, 7, 11, 12, 13, 14, 15, 16, 17, 18, 19] (by decide +kernel) (by decide +kernel)
set_option maxRecDepth 20000 in
theorem gL_at_L_slope : GoodIn wsL_at (va_wsS RL 43 yL_slope wsL_slope) := goodIn_app (goodIn_of _ (by decide +kernel)) ggL_at_L_slope
theorem dL_at_0 : decode cL_at 0 = .ok (.aload_n 0, 1) := by decide +kernel
theorem dL_at_1 : decode cL_at 1 = .ok (.iload 4, 2) := by decide +kernel
theorem dL_at_3 : decode cL_at 3 = .ok (.iconst 1, 1) := by decide +kernel
theorem dL_at_4 : decode cL_at 4 = .ok (.iadd, 1) := by decide +kernel
theorem dL_at_5 : decode cL_at 5 = .ok (.daload, 1) := by decide +kernel
theorem dL_at_6 : decode cL_at 6 = .ok (.aload_n 0, 1) := by decide +kernel
theorem dL_at_7 : decode cL_at 7 = .ok (.iload 4, 2) := by decide +kernel
theorem dL_at_9 : decode cL_at 9 = .ok (.daload, 1) := by decide +kernel
theorem dL_at_10 : decode cL_at 10 = .ok (.dsub, 1) := by decide +kernel
theorem dL_at_11 : decode cL_at 11 = .ok (.dstore 8, 2) := by decide +kernel
theorem dL_at_13 : decode cL_at 13 = .ok (.aload_n 0, 1) := by decide +kernel
theorem dL_at_14 : decode cL_at 14 = .ok (.aload_n 1, 1) := by decide +kernel
theorem dL_at_15 : decode cL_at 15 = .ok (.iload 4, 2) := by decide +kernel
theorem dL_at_17 : decode cL_at 17 = .ok (.invokestatic 29, 3) := by decide +kernel
theorem dL_at_20 : decode cL_at 20 = .ok (.dstore 10, 2) := by decide +kernel
theorem dL_at_22 : decode cL_at 22 = .ok (.aload_n 0, 1) := by decide +kernel
theorem dL_at_23 : decode cL_at 23 = .ok (.aload_n 1, 1) := by decide +kernel
theorem dL_at_24 : decode cL_at 24 = .ok (.aload_n 2, 1) := by decide +kernel
theorem dL_at_25 : decode cL_at 25 = .ok (.iload_n 3, 1) := by decide +kernel
theorem dL_at_26 : decode cL_at 26 = .ok (.iload 4, 2) := by decide +kernel
theorem dL_at_28 : decode cL_at 28 = .ok (.invokestatic 43, 3) := by decide +kernel
theorem dL_at_31 : decode cL_at 31 = .ok (.dstore 12, 2) := by decide +kernel
theorem dL_at_33 : decode cL_at 33 = .ok (.aload_n 0, 1) := by decide +kernel
theorem dL_at_34 : decode cL_at 34 = .ok (.aload_n 1, 1) := by decide +kernel
theorem dL_at_35 : decode cL_at 35 = .ok (.aload_n 2, 1) := by decide +kernel
theorem dL_at_36 : decode cL_at 36 = .ok (.iload_n 3, 1) := by decide +kernel
theorem dL_at_37 : decode cL_at 37 = .ok (.iload 4, 2) := by decide +kernel
theorem dL_at_39 : decode cL_at 39 = .ok (.iconst 1, 1) := by decide +kernel
theorem dL_at_40 : decode cL_at 40 = .ok (.iadd, 1) := by decide +kernel
theorem dL_at_41 : decode cL_at 41 = .ok (.invokestatic 43, 3) := by decide +kernel
theorem dL_at_44 : decode cL_at 44 = .ok (.dstore 14, 2) := by decide +kernel
theorem dL_at_46 : decode cL_at 46 = .ok (.ldc2_w 41, 3) := by decide +kernel
theorem dL_at_49 : decode cL_at 49 = .ok (.dload 10, 2) := by decide +kernel
theorem dL_at_51 : decode cL_at 51 = .ok (.dmul, 1) := by decide +kernel
theorem dL_at_52 : decode cL_at 52 = .ok (.ldc2_w 33, 3) := by decide +kernel
theorem dL_at_55 : decode cL_at 55 = .ok (.dload 12, 2) := by decide +kernel
theorem dL_at_57 : decode cL_at 57 = .ok (.dmul, 1) := by decide +kernel
theorem dL_at_58 : decode cL_at 58 = .ok (.dsub, 1) := by decide +kernel
theorem dL_at_59 : decode cL_at 59 = .ok (.dload 14, 2) := by decide +kernel
theorem dL_at_61 : decode cL_at 61 = .ok (.dsub, 1) := by decide +kernel
theorem dL_at_62 : decode cL_at 62 = .ok (.dload 8, 2) := by decide +kernel
theorem dL_at_64 : decode cL_at 64 = .ok (.ddiv, 1) := by decide +kernel
theorem dL_at_65 : decode cL_at 65 = .ok (.dstore 16, 2) := by decide +kernel
theorem dL_at_67 : decode cL_at 67 = .ok (.dload 12, 2) := by decide +kernel
theorem dL_at_69 : decode cL_at 69 = .ok (.dload 14, 2) := by decide +kernel
theorem dL_at_71 : decode cL_at 71 = .ok (.dadd, 1) := by decide +kernel
theorem dL_at_72 : decode cL_at 72 = .ok (.ldc2_w 33, 3) := by decide +kernel
theorem dL_at_75 : decode cL_at 75 = .ok (.dload 10, 2) := by decide +kernel
theorem dL_at_77 : decode cL_at 77 = .ok (.dmul, 1) := by decide +kernel
theorem dL_at_78 : decode cL_at 78 = .ok (.dsub, 1) := by decide +kernel
theorem dL_at_79 : decode cL_at 79 = .ok (.dload 8, 2) := by decide +kernel
theorem dL_at_81 : decode cL_at 81 = .ok (.dload 8, 2) := by decide +kernel
theorem dL_at_83 : decode cL_at 83 = .ok (.dmul, 1) := by decide +kernel
theorem dL_at_84 : decode cL_at 84 = .ok (.ddiv, 1) := by decide +kernel
theorem dL_at_85 : decode cL_at 85 = .ok (.dstore 18, 2) := by decide +kernel
theorem dL_at_87 : decode cL_at 87 = .ok (.iload 7, 2) := by decide +kernel
theorem dL_at_89 : decode cL_at 89 = .ok (.ifCond .ne 26, 3) := by decide +kernel
theorem dL_at_92 : decode cL_at 92 = .ok (.aload_n 1, 1) := by decide +kernel
theorem dL_at_93 : decode cL_at 93 = .ok (.iload 4, 2) := by decide +kernel
theorem dL_at_95 : decode cL_at 95 = .ok (.daload, 1) := by decide +kernel
theorem dL_at_96 : decode cL_at 96 = .ok (.dload 5, 2) := by decide +kernel
theorem dL_at_98 : decode cL_at 98 = .ok (.dload 12, 2) := by decide +kernel
theorem dL_at_100 : decode cL_at 100 = .ok (.dload 5, 2) := by decide +kernel
theorem dL_at_102 : decode cL_at 102 = .ok (.dload 16, 2) := by decide +kernel
theorem dL_at_104 : decode cL_at 104 = .ok (.dload 5, 2) := by decide +kernel
theorem dL_at_106 : decode cL_at 106 = .ok (.dload 18, 2) := by decide +kernel
theorem dL_at_108 : decode cL_at 108 = .ok (.dmul, 1) := by decide +kernel
theorem dL_at_109 : decode cL_at 109 = .ok (.dadd, 1) := by decide +kernel
theorem dL_at_110 : decode cL_at 110 = .ok (.dmul, 1) := by decide +kernel
theorem dL_at_111 : decode cL_at 111 = .ok (.dadd, 1) := by decide +kernel
theorem dL_at_112 : decode cL_at 112 = .ok (.dmul, 1) := by decide +kernel
theorem dL_at_113 : decode cL_at 113 = .ok (.dadd, 1) := by decide +kernel
theorem dL_at_114 : decode cL_at 114 = .ok (.dreturn, 1) := by decide +kernel
theorem dL_at_115 : decode cL_at 115 = .ok (.iload 7, 2) := by decide +kernel
theorem dL_at_117 : decode cL_at 117 = .ok (.iconst 1, 1) := by decide +kernel
theorem dL_at_118 : decode cL_at 118 = .ok (.if_icmp .ne 26, 3) := by decide +kernel
theorem dL_at_121 : decode cL_at 121 = .ok (.dload 12, 2) := by decide +kernel
theorem dL_at_123 : decode cL_at 123 = .ok (.dload 5, 2) := by decide +kernel
theorem dL_at_125 : decode cL_at 125 = .ok (.ldc2_w 33, 3) := by decide +kernel
theorem dL_at_128 : decode cL_at 128 = .ok (.dload 16, 2) := by decide +kernel
theorem dL_at_130 : decode cL_at 130 = .ok (.dmul, 1) := by decide +kernel
theorem dL_at_131 : decode cL_at 131 = .ok (.dload 5, 2) := by decide +kernel
theorem dL_at_133 : decode cL_at 133 = .ok (.ldc2_w 41, 3) := by decide +kernel
theorem dL_at_136 : decode cL_at 136 = .ok (.dload 18, 2) := by decide +kernel
theorem dL_at_138 : decode cL_at 138 = .ok (.dmul, 1) := by decide +kernel
theorem dL_at_139 : decode cL_at 139 = .ok (.dmul, 1) := by decide +kernel
theorem dL_at_140 : decode cL_at 140 = .ok (.dadd, 1) := by decide +kernel
theorem dL_at_141 : decode cL_at 141 = .ok (.dmul, 1) := by decide +kernel
theorem dL_at_142 : decode cL_at 142 = .ok (.dadd, 1) := by decide +kernel
theorem dL_at_143 : decode cL_at 143 = .ok (.dreturn, 1) := by decide +kernel
theorem dL_at_144 : decode cL_at 144 = .ok (.dload 5, 2) := by decide +kernel
theorem dL_at_146 : decode cL_at 146 = .ok (.aload_n 1, 1) := by decide +kernel
theorem dL_at_147 : decode cL_at 147 = .ok (.iload 4, 2) := by decide +kernel
theorem dL_at_149 : decode cL_at 149 = .ok (.daload, 1) := by decide +kernel
theorem dL_at_150 : decode cL_at 150 = .ok (.dload 5, 2) := by decide +kernel
theorem dL_at_152 : decode cL_at 152 = .ok (.dload 12, 2) := by decide +kernel
theorem dL_at_154 : decode cL_at 154 = .ok (.ldc2_w 33, 3) := by decide +kernel
theorem dL_at_157 : decode cL_at 157 = .ok (.ddiv, 1) := by decide +kernel
theorem dL_at_158 : decode cL_at 158 = .ok (.dload 5, 2) := by decide +kernel
theorem dL_at_160 : decode cL_at 160 = .ok (.dload 16, 2) := by decide +kernel
theorem dL_at_162 : decode cL_at 162 = .ok (.ldc2_w 41, 3) := by decide +kernel
theorem dL_at_165 : decode cL_at 165 = .ok (.ddiv, 1) := by decide +kernel
theorem dL_at_166 : decode cL_at 166 = .ok (.dload 5, 2) := by decide +kernel
theorem dL_at_168 : decode cL_at 168 = .ok (.dload 18, 2) := by decide +kernel
theorem dL_at_170 : decode cL_at 170 = .ok (.ldc2_w 47, 3) := by decide +kernel
theorem dL_at_173 : decode cL_at 173 = .ok (.ddiv, 1) := by decide +kernel
theorem dL_at_174 : decode cL_at 174 = .ok (.dmul, 1) := by decide +kernel
theorem dL_at_175 : decode cL_at 175 = .ok (.dadd, 1) := by decide +kernel
theorem dL_at_176 : decode cL_at 176 = .ok (.dmul, 1) := by decide +kernel
theorem dL_at_177 : decode cL_at 177 = .ok (.dadd, 1) := by decide +kernel
theorem dL_at_178 : decode cL_at 178 = .ok (.dmul, 1) := by decide +kernel
theorem dL_at_179 : decode cL_at 179 = .ok (.dadd, 1) := by decide +kernel
theorem dL_at_180 : decode cL_at 180 = .ok (.dmul, 1) := by decide +kernel
theorem dL_at_181 : decode cL_at 181 = .ok (.dreturn, 1) := by decide +kernel
set_option maxRecDepth 20000 in
theorem ggL_area_L_piece : GoodIn wsL_area wsL_piece := goodIn_r _ [4] (by decide +kernel) (by decide +kernel)
set_option maxRecDepth 20000 in
theorem gL_area_L_piece : GoodIn wsL_area (va_wsS RL 49 yL_piece wsL_piece) := goodIn_app (goodIn_of _ (by decide +kernel)) ggL_area_L_piece
set_option maxRecDepth 20000 in
theorem ggL_area_L_at : GoodIn wsL_area wsL_at := goodIn_r _ [7, 8, 9, 10, 11, 12, 3, 13, 14, 15, 16, 17, 18, 19, 20, 21, 22, 23, 24, 25] (by decide +kernel) (by decide +kernel)
set_option maxRecDepth 20000 in
theorem gL_area_L_at : GoodIn wsL_area (va_wsS RL 53 yL_at wsL_at) := goodIn_app (goodIn_of _ (by decide +kernel)) ggL_area_L_at
theorem dL_area_0 : decode cL_area 0 = .ok (.aload_n 0, 1) := by decide +kernel
theorem dL_area_1 : decode cL_area 1 = .ok (.iload_n 3, 1) := by decide +kernel
theorem dL_area_2 : decode cL_area 2 = .ok (.dload 4, 2) := by decide +kernel
theorem dL_area_4 : decode cL_area 4 = .ok (.invokestatic 49, 3) := by decide +kernel
theorem dL_area_7 : decode cL_area 7 = .ok (.istore 6, 2) := by decide +kernel
theorem dL_area_9 : decode cL_area 9 = .ok (.dconst 0, 1) := by decide +kernel
theorem dL_area_10 : decode cL_area 10 = .ok (.dstore 7, 2) := by decide +kernel
theorem dL_area_12 : decode cL_area 12 = .ok (.iconst 0, 1) := by decide +kernel
theorem dL_area_13 : decode cL_area 13 = .ok (.istore 9, 2) := by decide +kernel
theorem dL_area_15 : decode cL_area 15 = .ok (.iload 9, 2) := by decide +kernel
theorem dL_area_17 : decode cL_area 17 = .ok (.iload 6, 2) := by decide +kernel
theorem dL_area_19 : decode cL_area 19 = .ok (.if_icmp .ge 35, 3) := by decide +kernel
theorem dL_area_22 : decode cL_area 22 = .ok (.dload 7, 2) := by decide +kernel
theorem dL_area_24 : decode cL_area 24 = .ok (.aload_n 0, 1) := by decide +kernel
theorem dL_area_25 : decode cL_area 25 = .ok (.aload_n 1, 1) := by decide +kernel
theorem dL_area_26 : decode cL_area 26 = .ok (.aload_n 2, 1) := by decide +kernel
theorem dL_area_27 : decode cL_area 27 = .ok (.iload_n 3, 1) := by decide +kernel
theorem dL_area_28 : decode cL_area 28 = .ok (.iload 9, 2) := by decide +kernel
theorem dL_area_30 : decode cL_area 30 = .ok (.aload_n 0, 1) := by decide +kernel
theorem dL_area_31 : decode cL_area 31 = .ok (.iload 9, 2) := by decide +kernel
theorem dL_area_33 : decode cL_area 33 = .ok (.iconst 1, 1) := by decide +kernel
theorem dL_area_34 : decode cL_area 34 = .ok (.iadd, 1) := by decide +kernel
theorem dL_area_35 : decode cL_area 35 = .ok (.daload, 1) := by decide +kernel
theorem dL_area_36 : decode cL_area 36 = .ok (.aload_n 0, 1) := by decide +kernel
theorem dL_area_37 : decode cL_area 37 = .ok (.iload 9, 2) := by decide +kernel
theorem dL_area_39 : decode cL_area 39 = .ok (.daload, 1) := by decide +kernel
theorem dL_area_40 : decode cL_area 40 = .ok (.dsub, 1) := by decide +kernel
theorem dL_area_41 : decode cL_area 41 = .ok (.iconst 2, 1) := by decide +kernel
theorem dL_area_42 : decode cL_area 42 = .ok (.invokestatic 53, 3) := by decide +kernel
theorem dL_area_45 : decode cL_area 45 = .ok (.dadd, 1) := by decide +kernel
theorem dL_area_46 : decode cL_area 46 = .ok (.dstore 7, 2) := by decide +kernel
theorem dL_area_48 : decode cL_area 48 = .ok (.iinc 9 1, 3) := by decide +kernel
theorem dL_area_51 : decode cL_area 51 = .ok (.goto (-36), 3) := by decide +kernel
theorem dL_area_54 : decode cL_area 54 = .ok (.dload 7, 2) := by decide +kernel
theorem dL_area_56 : decode cL_area 56 = .ok (.aload_n 0, 1) := by decide +kernel
theorem dL_area_57 : decode cL_area 57 = .ok (.aload_n 1, 1) := by decide +kernel
theorem dL_area_58 : decode cL_area 58 = .ok (.aload_n 2, 1) := by decide +kernel
theorem dL_area_59 : decode cL_area 59 = .ok (.iload_n 3, 1) := by decide +kernel
theorem dL_area_60 : decode cL_area 60 = .ok (.iload 6, 2) := by decide +kernel
theorem dL_area_62 : decode cL_area 62 = .ok (.dload 4, 2) := by decide +kernel
theorem dL_area_64 : decode cL_area 64 = .ok (.aload_n 0, 1) := by decide +kernel
theorem dL_area_65 : decode cL_area 65 = .ok (.iload 6, 2) := by decide +kernel
theorem dL_area_67 : decode cL_area 67 = .ok (.daload, 1) := by decide +kernel
theorem dL_area_68 : decode cL_area 68 = .ok (.dsub, 1) := by decide +kernel
theorem dL_area_69 : decode cL_area 69 = .ok (.iconst 2, 1) := by decide +kernel
theorem dL_area_70 : decode cL_area 70 = .ok (.invokestatic 53, 3) := by decide +kernel
theorem dL_area_73 : decode cL_area 73 = .ok (.dadd, 1) := by decide +kernel
theorem dL_area_74 : decode cL_area 74 = .ok (.dreturn, 1) := by decide +kernel
set_option maxRecDepth 20000 in
theorem ggL_law_X6_init : GoodIn wsL_law wsX6_init := goodIn_r _ [15, 16, 17, 18, 19, 20, 21, 22, 23, 24, 25, 26, 27, 28, 29, 30, 31, 32, 33, 34, 35, 36, 37, 38, 39, 40, 41, 42, 43, 44, 45, 46, 47, 48, 49, 50, 51, 52, 3, 53, 54, 55, 56, 57, 58, 59, 60, 61, 62, 63, 64, 65, 66, 67, 68, 69, 70, 71, 72, 73, 74, 75, 76, 77, 78, 377, 378, 379, 380, 371, 372, 373, 374, 375, 376, 381, 382, 383, 384, 385, 386, 387, 388, 389, 390, 391, 392, 393, 394, 395, 396, 397] (by decide +kernel) (by decide +kernel)
set_option maxRecDepth 20000 in
theorem gL_law_X6_init : GoodIn wsL_law (wsX6_init) := ggL_law_X6_init
set_option maxRecDepth 20000 in
theorem ggL_law_L_cell : GoodIn wsL_law wsL_cell := goodIn_r _ [82, 83] (by decide +kernel) (by decide +kernel)
set_option maxRecDepth 20000 in
theorem gL_law_L_cell : GoodIn wsL_law (va_wsS RL 9 yL_cell wsL_cell) := goodIn_app (goodIn_of _ (by decide +kernel)) ggL_law_L_cell
set_option maxRecDepth 20000 in
theorem ggL_law_L_below : GoodIn wsL_law wsL_below := goodIn_r _ [86, 87] (by decide +kernel) (by decide +kernel)
set_option maxRecDepth 20000 in
theorem gL_law_L_below : GoodIn wsL_law (va_wsS RL 15 yL_below wsL_below) := goodIn_app (goodIn_of _ (by decide +kernel)) ggL_law_L_below
set_option maxRecDepth 20000 in
theorem ggL_law_L_build : GoodIn wsL_law wsL_build := goodIn_ca (goodIn_ca (goodIn_r _ [90, 79, 80, 81, 82, 83, 84, 85, 86, 87, 91, 92, 93, 2, 94, 95, 96, 97, 98, 99, 100, 101, 102, 22, 103, 104, 105, 106, 107, 108, 109, 110, 111, 112, 113, 114, 115, 21, 116, 117, 46, 118, 119, 120, 121, 45, 122, 53, 123, 124, 125, 126, 47, 48, 127, 128, 129, 130, 131, 132, 133, 134, 135, 136, 137, 138, 371, 372, 373, 374, 375, 376, 377, 378, 379, 380, 397] (by decide +kernel) (by decide +kernel)) (goodIn_sub (fun _ h => List.mem_append_left _ (List.mem_append_left _ (List.mem_append_right _ h))) (by decide +kernel))) (goodIn_sub (fun _ h => List.mem_append_left _ (List.mem_append_right _ h)) (by decide +kernel))
set_option maxRecDepth 20000 in
theorem gL_law_L_build : GoodIn wsL_law (va_wsS RL 60 yL_build wsL_build) := goodIn_app (goodIn_of _ (by decide +kernel)) ggL_law_L_build
set_option maxRecDepth 20000 in
theorem ggL_law_X6_fit : GoodIn wsL_law wsX6_fit := goodIn_ca (goodIn_r _ [142, 97, 98, 22, 26, 30, 143, 144, 145, 25, 146, 147, 148, 120, 121, 45, 122, 53, 149, 150, 151, 152, 61, 58, 59, 153, 132, 133, 134, 154, 155, 156, 157, 158, 159, 2, 160, 161, 162, 163, 164, 165, 166, 167, 29, 168, 169, 170, 171, 172, 173, 174, 175, 176, 177, 178, 179, 180, 181, 182, 183, 67, 68, 69, 184, 128, 129, 130, 131, 371, 372, 373, 374, 375, 376, 377, 378, 379, 380, 381, 382, 383, 384, 397, 385, 386, 387, 388] (by decide +kernel) (by decide +kernel)) (goodIn_sub (fun _ h => List.mem_append_left _ (List.mem_append_right _ h)) (by decide +kernel))
set_option maxRecDepth 20000 in
theorem gL_law_X6_fit : GoodIn wsL_law (wsV RL 64 RX6 yX6_fit wsX6_fit) := goodIn_app (goodIn_of _ (by decide +kernel)) ggL_law_X6_fit
set_option maxRecDepth 20000 in
theorem ggL_law_X6_knotPlace : GoodIn wsL_law wsX6_knotPlace := goodIn_ca (goodIn_r _ [188, 30, 189, 190, 191, 2, 192, 193, 194, 148, 120, 121, 45, 122, 53, 371, 372, 373, 374, 375, 376, 385, 386, 387, 388, 397] (by decide +kernel) (by decide +kernel)) (goodIn_sub (fun _ h => List.mem_append_right _ h) (by decide +kernel))
set_option maxRecDepth 20000 in
theorem gL_law_X6_knotPlace : GoodIn wsL_law (wsV RL 67 RX6 yX6_knotPlace wsX6_knotPlace) := goodIn_app (goodIn_of _ (by decide +kernel)) ggL_law_X6_knotPlace
set_option maxRecDepth 20000 in
theorem ggL_law_X6_knotValue : GoodIn wsL_law wsX6_knotValue := goodIn_ca (goodIn_r _ [198, 30, 189, 190, 191, 2, 192, 193, 194, 148, 120, 121, 45, 122, 53, 371, 372, 373, 374, 375, 376, 385, 386, 387, 388, 397] (by decide +kernel) (by decide +kernel)) (goodIn_sub (fun _ h => List.mem_append_right _ h) (by decide +kernel))
set_option maxRecDepth 20000 in
theorem gL_law_X6_knotValue : GoodIn wsL_law (wsV RL 71 RX6 yX6_knotValue wsX6_knotValue) := goodIn_app (goodIn_of _ (by decide +kernel)) ggL_law_X6_knotValue
set_option maxRecDepth 20000 in
theorem ggL_law_L_piece : GoodIn wsL_law wsL_piece := goodIn_r _ [201] (by decide +kernel) (by decide +kernel)
set_option maxRecDepth 20000 in
theorem gL_law_L_piece : GoodIn wsL_law (va_wsS RL 49 yL_piece wsL_piece) := goodIn_app (goodIn_of _ (by decide +kernel)) ggL_law_L_piece
set_option maxRecDepth 20000 in
theorem ggL_law_L_at : GoodIn wsL_law wsL_at := goodIn_r _ [204, 205, 206, 207, 208, 209, 81, 210, 211, 212, 213, 214, 215, 216, 217, 218, 219, 220, 221, 222] (by decide +kernel) (by decide +kernel)
set_option maxRecDepth 20000 in
theorem gL_law_L_at : GoodIn wsL_law (va_wsS RL 53 yL_at wsL_at) := goodIn_app (goodIn_of _ (by decide +kernel)) ggL_law_L_at
set_option maxRecDepth 20000 in
theorem ggL_law_X6_insertKnot : GoodIn wsL_law wsX6_insertKnot := goodIn_ca (goodIn_ca (goodIn_r _ [226, 95, 96, 97, 98, 30, 227, 34, 103, 104, 2, 105, 106, 107, 108, 109, 228, 229, 230, 29, 231, 169, 67, 232, 120, 121, 45, 122, 53, 233, 234, 235, 236, 148, 237, 238, 239, 240, 241, 242, 243, 33, 244, 245, 246, 247, 248, 249, 250, 251, 252, 253, 254, 68, 255, 159, 160, 256, 257, 258, 259, 260, 69, 261, 262, 263, 264, 265, 266, 267, 268, 269, 270, 271, 272, 273, 274, 275, 276, 277, 278, 279, 280, 281, 282, 283, 284, 285, 286, 287, 288, 289, 290, 180, 181, 182, 183, 184, 128, 129, 130, 131, 132, 133, 134, 371, 372, 373, 374, 375, 376, 385, 386, 387, 388, 397, 389, 390, 391, 392, 393] (by decide +kernel) (by decide +kernel)) (goodIn_sub (fun _ h => List.mem_append_left _ (List.mem_append_left _ (List.mem_append_right _ h))) (by decide +kernel))) (goodIn_sub (fun _ h => List.mem_append_left _ (List.mem_append_right _ h)) (by decide +kernel))
set_option maxRecDepth 20000 in
theorem gL_law_X6_insertKnot : GoodIn wsL_law (wsV RL 80 RX6 yX6_insertKnot wsX6_insertKnot) := goodIn_app (goodIn_of _ (by decide +kernel)) ggL_law_X6_insertKnot
set_option maxRecDepth 20000 in
theorem ggL_law_J9_max_eb370 : GoodIn wsL_law wsJ9_max_eb370 := goodIn_r _ [293, 218, 219, 220, 221, 222] (by decide +kernel) (by decide +kernel)
set_option maxRecDepth 20000 in
theorem gL_law_J9_max_eb370 : GoodIn wsL_law (va_wsS RL 84 yJ9_max_eb370 wsJ9_max_eb370) := goodIn_app (goodIn_of _ (by decide +kernel)) ggL_law_J9_max_eb370
set_option maxRecDepth 20000 in
theorem ggL_law_J9_min_eb370 : GoodIn wsL_law wsJ9_min_eb370 := goodIn_r _ [217, 218, 219, 220, 221, 222] (by decide +kernel) (by decide +kernel)
set_option maxRecDepth 20000 in
theorem gL_law_J9_min_eb370 : GoodIn wsL_law (va_wsS RL 35 yJ9_min_eb370 wsJ9_min_eb370) := goodIn_app (goodIn_of _ (by decide +kernel)) ggL_law_J9_min_eb370
set_option maxRecDepth 20000 in
theorem ggL_law_X6_removeKnot : GoodIn wsL_law wsX6_removeKnot := goodIn_ca (goodIn_ca (goodIn_r _ [297, 95, 96, 30, 189, 190, 191, 2, 192, 193, 194, 298, 299, 300, 29, 301, 67, 169, 68, 69, 302, 303, 304, 45, 305, 53, 371, 372, 373, 374, 375, 376, 385, 386, 387, 388, 397] (by decide +kernel) (by decide +kernel)) (goodIn_sub (fun _ h => List.mem_append_left _ (List.mem_append_left _ (List.mem_append_right _ h))) (by decide +kernel))) (goodIn_sub (fun _ h => List.mem_append_right _ h) (by decide +kernel))
set_option maxRecDepth 20000 in
theorem gL_law_X6_removeKnot : GoodIn wsL_law (wsV RL 87 RX6 yX6_removeKnot wsX6_removeKnot) := goodIn_app (goodIn_of _ (by decide +kernel)) ggL_law_X6_removeKnot
set_option maxRecDepth 20000 in
theorem ggL_law_X6_freeSlope : GoodIn wsL_law wsX6_freeSlope := goodIn_ca (goodIn_r _ [309, 30, 174, 189, 190, 191, 2, 192, 193, 194, 310, 263, 264, 29, 265, 69, 232, 120, 121, 45, 122, 53, 311, 132, 133, 134, 371, 372, 373, 374, 375, 376, 385, 386, 387, 388, 397] (by decide +kernel) (by decide +kernel)) (goodIn_sub (fun _ h => List.mem_append_right _ h) (by decide +kernel))
set_option maxRecDepth 20000 in
theorem gL_law_X6_freeSlope : GoodIn wsL_law (wsV RL 91 RX6 yX6_freeSlope wsX6_freeSlope) := goodIn_app (goodIn_of _ (by decide +kernel)) ggL_law_X6_freeSlope
set_option maxRecDepth 20000 in
theorem ggL_law_J9_abs_294c1 : GoodIn wsL_law wsJ9_abs_294c1 := goodIn_r _ [314, 218, 219, 220, 221, 315, 316, 317, 318] (by decide +kernel) (by decide +kernel)
set_option maxRecDepth 20000 in
theorem gL_law_J9_abs_294c1 : GoodIn wsL_law (va_wsS RL 99 yJ9_abs_294c1 wsJ9_abs_294c1) := goodIn_app (goodIn_of _ (by decide +kernel)) ggL_law_J9_abs_294c1
set_option maxRecDepth 20000 in
theorem ggL_law_X6_setKnotValue : GoodIn wsL_law wsX6_setKnotValue := goodIn_ca (goodIn_ca (goodIn_r _ [322, 95, 96, 99, 100, 30, 189, 190, 191, 2, 192, 193, 194, 103, 104, 105, 106, 107, 108, 109, 110, 111, 112, 148, 120, 121, 45, 122, 53, 311, 132, 133, 134, 371, 372, 373, 374, 375, 376, 385, 386, 387, 388, 397] (by decide +kernel) (by decide +kernel)) (goodIn_sub (fun _ h => List.mem_append_left _ (List.mem_append_left _ (List.mem_append_right _ h))) (by decide +kernel))) (goodIn_sub (fun _ h => List.mem_append_right _ h) (by decide +kernel))
set_option maxRecDepth 20000 in
theorem gL_law_X6_setKnotValue : GoodIn wsL_law (wsV RL 105 RX6 yX6_setKnotValue wsX6_setKnotValue) := goodIn_app (goodIn_of _ (by decide +kernel)) ggL_law_X6_setKnotValue
set_option maxRecDepth 20000 in
theorem ggL_law_X6_fixSlope : GoodIn wsL_law wsX6_fixSlope := goodIn_ca (goodIn_ca (goodIn_r _ [326, 95, 96, 100, 30, 189, 190, 191, 2, 192, 193, 194, 103, 104, 105, 106, 107, 108, 109, 110, 111, 112, 311, 132, 133, 45, 134, 53, 256, 257, 258, 29, 259, 169, 260, 69, 261, 252, 253, 254, 68, 232, 120, 121, 122, 255, 248, 249, 250, 67, 159, 160, 262, 263, 264, 265, 266, 267, 268, 269, 270, 371, 372, 373, 374, 375, 376, 385, 386, 387, 388, 397] (by decide +kernel) (by decide +kernel)) (goodIn_sub (fun _ h => List.mem_append_left _ (List.mem_append_left _ (List.mem_append_right _ h))) (by decide +kernel))) (goodIn_sub (fun _ h => List.mem_append_right _ h) (by decide +kernel))
set_option maxRecDepth 20000 in
theorem gL_law_X6_fixSlope : GoodIn wsL_law (wsV RL 111 RX6 yX6_fixSlope wsX6_fixSlope) := goodIn_app (goodIn_of _ (by decide +kernel)) ggL_law_X6_fixSlope
set_option maxRecDepth 20000 in
theorem ggL_law_L_slope : GoodIn wsL_law wsL_slope := goodIn_r _ [213, 206, 205, 208, 209, 81, 210, 214, 215, 216, 217, 218, 219, 220, 221, 222] (by decide +kernel) (by decide +kernel)
set_option maxRecDepth 20000 in
theorem gL_law_L_slope : GoodIn wsL_law (va_wsS RL 43 yL_slope wsL_slope) := goodIn_app (goodIn_of _ (by decide +kernel)) ggL_law_L_slope
set_option maxRecDepth 20000 in
theorem ggL_law_X6_isFixed : GoodIn wsL_law wsX6_isFixed := goodIn_ca (goodIn_r _ [330, 30, 189, 190, 191, 2, 192, 193, 194, 310, 263, 264, 29, 265, 69, 232, 120, 121, 45, 122, 53, 371, 372, 373, 374, 375, 376, 385, 386, 387, 388, 397] (by decide +kernel) (by decide +kernel)) (goodIn_sub (fun _ h => List.mem_append_right _ h) (by decide +kernel))
set_option maxRecDepth 20000 in
theorem gL_law_X6_isFixed : GoodIn wsL_law (wsV RL 114 RX6 yX6_isFixed wsX6_isFixed) := goodIn_app (goodIn_of _ (by decide +kernel)) ggL_law_X6_isFixed
set_option maxRecDepth 20000 in
theorem ggL_law_X6_knotSlope : GoodIn wsL_law wsX6_knotSlope := goodIn_ca (goodIn_r _ [334, 30, 189, 190, 191, 2, 192, 193, 194, 256, 257, 258, 29, 259, 169, 260, 69, 261, 252, 253, 254, 68, 232, 120, 121, 45, 122, 53, 255, 248, 249, 250, 67, 159, 160, 262, 263, 264, 265, 266, 267, 268, 269, 270, 371, 372, 373, 374, 375, 376, 385, 386, 387, 388, 397] (by decide +kernel) (by decide +kernel)) (goodIn_sub (fun _ h => List.mem_append_right _ h) (by decide +kernel))
set_option maxRecDepth 20000 in
theorem gL_law_X6_knotSlope : GoodIn wsL_law (wsV RL 117 RX6 yX6_knotSlope wsX6_knotSlope) := goodIn_app (goodIn_of _ (by decide +kernel)) ggL_law_X6_knotSlope
set_option maxRecDepth 20000 in
theorem ggL_law_X6_value : GoodIn wsL_law wsX6_value := goodIn_ca (goodIn_r _ [338, 30, 34, 339, 340, 341, 2, 342, 95, 96, 343, 344, 345, 29, 346, 169, 67, 232, 120, 121, 45, 122, 53, 111, 112, 233, 234, 235, 236, 237, 238, 239, 240, 148, 241, 242, 243, 33, 244, 245, 246, 247, 248, 249, 250, 251, 252, 253, 254, 68, 255, 159, 160, 256, 257, 258, 259, 260, 69, 261, 262, 263, 264, 265, 266, 267, 268, 269, 270, 271, 272, 273, 274, 275, 276, 277, 278, 279, 280, 281, 282, 283, 371, 372, 373, 374, 375, 376, 385, 386, 387, 388, 397, 389, 390, 391, 392, 393] (by decide +kernel) (by decide +kernel)) (goodIn_sub (fun _ h => List.mem_append_left _ (List.mem_append_left _ (List.mem_append_right _ h))) (by decide +kernel))
set_option maxRecDepth 20000 in
theorem gL_law_X6_value : GoodIn wsL_law (wsV RL 122 RX6 yX6_value wsX6_value) := goodIn_app (goodIn_of _ (by decide +kernel)) ggL_law_X6_value
set_option maxRecDepth 20000 in
theorem ggL_law_X6_slope : GoodIn wsL_law wsX6_slope := goodIn_ca (goodIn_r _ [350, 30, 34, 339, 340, 341, 2, 342, 95, 96, 343, 344, 345, 29, 346, 169, 67, 232, 120, 121, 45, 122, 53, 111, 112, 233, 234, 235, 236, 237, 238, 239, 240, 148, 241, 242, 243, 33, 244, 245, 246, 247, 248, 249, 250, 251, 252, 253, 254, 68, 255, 159, 160, 256, 257, 258, 259, 260, 69, 261, 262, 263, 264, 265, 266, 267, 268, 269, 270, 271, 272, 273, 274, 275, 276, 277, 278, 279, 287, 288, 289, 290, 371, 372, 373, 374, 375, 376, 385, 386, 387, 388, 397, 389, 390, 391, 392, 393] (by decide +kernel) (by decide +kernel)) (goodIn_sub (fun _ h => List.mem_append_left _ (List.mem_append_left _ (List.mem_append_right _ h))) (by decide +kernel))
set_option maxRecDepth 20000 in
theorem gL_law_X6_slope : GoodIn wsL_law (wsV RL 125 RX6 yX6_slope wsX6_slope) := goodIn_app (goodIn_of _ (by decide +kernel)) ggL_law_X6_slope
set_option maxRecDepth 20000 in
theorem ggL_law_X6_area : GoodIn wsL_law wsX6_area := goodIn_ca (goodIn_r _ [354, 339, 340, 341, 2, 342, 95, 96, 30, 343, 344, 345, 29, 346, 169, 67, 232, 120, 121, 45, 122, 53, 111, 112, 355, 356, 357, 358, 34, 233, 234, 235, 236, 237, 238, 239, 240, 148, 241, 242, 243, 33, 244, 245, 246, 247, 248, 249, 250, 251, 252, 253, 254, 68, 255, 159, 160, 256, 257, 258, 259, 260, 69, 261, 262, 263, 264, 265, 266, 267, 268, 269, 270, 271, 272, 273, 274, 275, 276, 277, 278, 279, 359, 360, 361, 362, 363, 371, 372, 373, 374, 375, 376, 385, 386, 387, 388, 397, 389, 390, 391, 392, 393] (by decide +kernel) (by decide +kernel)) (goodIn_sub (fun _ h => List.mem_append_left _ (List.mem_append_left _ (List.mem_append_right _ h))) (by decide +kernel))
set_option maxRecDepth 20000 in
theorem gL_law_X6_area : GoodIn wsL_law (wsV RL 127 RX6 yX6_area wsX6_area) := goodIn_app (goodIn_of _ (by decide +kernel)) ggL_law_X6_area
set_option maxRecDepth 20000 in
theorem ggL_law_L_area : GoodIn wsL_law wsL_area := goodIn_r _ [366, 199, 200, 81, 201, 202, 203, 204, 205, 206, 207, 208, 209, 210, 211, 212, 213, 214, 215, 216, 217, 218, 219, 220, 221, 222] (by decide +kernel) (by decide +kernel)
set_option maxRecDepth 20000 in
theorem gL_law_L_area : GoodIn wsL_law (va_wsS RL 130 yL_area wsL_area) := goodIn_app (goodIn_of _ (by decide +kernel)) ggL_law_L_area
set_option maxRecDepth 20000 in
theorem ggL_law_X6_knotCount : GoodIn wsL_law wsX6_knotCount := goodIn_r _ [370, 30, 371, 372, 373, 374, 375, 376, 385, 386, 387, 388] (by decide +kernel) (by decide +kernel)
set_option maxRecDepth 20000 in
theorem gL_law_X6_knotCount : GoodIn wsL_law (wsV RL 133 RX6 yX6_knotCount wsX6_knotCount) := goodIn_app (goodIn_of _ (by decide +kernel)) ggL_law_X6_knotCount
theorem dL_law_0 : decode cL_law 0 = .ok (.new 20, 3) := by decide +kernel
theorem dL_law_3 : decode cL_law 3 = .ok (.dup, 1) := by decide +kernel
theorem dL_law_4 : decode cL_law 4 = .ok (.invokespecial 57, 3) := by decide +kernel
theorem dL_law_7 : decode cL_law 7 = .ok (.astore_n 1, 1) := by decide +kernel
theorem dL_law_8 : decode cL_law 8 = .ok (.iconst 3, 1) := by decide +kernel
theorem dL_law_9 : decode cL_law 9 = .ok (.aload_n 0, 1) := by decide +kernel
theorem dL_law_10 : decode cL_law 10 = .ok (.iconst 0, 1) := by decide +kernel
theorem dL_law_11 : decode cL_law 11 = .ok (.invokestatic 9, 3) := by decide +kernel
theorem dL_law_14 : decode cL_law 14 = .ok (.iconst 4, 1) := by decide +kernel
theorem dL_law_15 : decode cL_law 15 = .ok (.invokestatic 15, 3) := by decide +kernel
theorem dL_law_18 : decode cL_law 18 = .ok (.iadd, 1) := by decide +kernel
theorem dL_law_19 : decode cL_law 19 = .ok (.istore_n 2, 1) := by decide +kernel
theorem dL_law_20 : decode cL_law 20 = .ok (.bipush 20, 2) := by decide +kernel
theorem dL_law_22 : decode cL_law 22 = .ok (.newarray .double, 2) := by decide +kernel
theorem dL_law_24 : decode cL_law 24 = .ok (.astore_n 3, 1) := by decide +kernel
theorem dL_law_25 : decode cL_law 25 = .ok (.bipush 20, 2) := by decide +kernel
theorem dL_law_27 : decode cL_law 27 = .ok (.newarray .double, 2) := by decide +kernel
theorem dL_law_29 : decode cL_law 29 = .ok (.astore 4, 2) := by decide +kernel
theorem dL_law_31 : decode cL_law 31 = .ok (.bipush 20, 2) := by decide +kernel
theorem dL_law_33 : decode cL_law 33 = .ok (.newarray .double, 2) := by decide +kernel
theorem dL_law_35 : decode cL_law 35 = .ok (.astore 5, 2) := by decide +kernel
theorem dL_law_37 : decode cL_law 37 = .ok (.bipush 20, 2) := by decide +kernel
theorem dL_law_39 : decode cL_law 39 = .ok (.newarray .double, 2) := by decide +kernel
theorem dL_law_41 : decode cL_law 41 = .ok (.astore 6, 2) := by decide +kernel
theorem dL_law_43 : decode cL_law 43 = .ok (.aload_n 1, 1) := by decide +kernel
theorem dL_law_44 : decode cL_law 44 = .ok (.aload_n 0, 1) := by decide +kernel
theorem dL_law_45 : decode cL_law 45 = .ok (.iconst 1, 1) := by decide +kernel
theorem dL_law_46 : decode cL_law 46 = .ok (.iload_n 2, 1) := by decide +kernel
theorem dL_law_47 : decode cL_law 47 = .ok (.ldc2_w 58, 3) := by decide +kernel
theorem dL_law_50 : decode cL_law 50 = .ok (.aload 5, 2) := by decide +kernel
theorem dL_law_52 : decode cL_law 52 = .ok (.aload_n 3, 1) := by decide +kernel
theorem dL_law_53 : decode cL_law 53 = .ok (.invokestatic 60, 3) := by decide +kernel
theorem dL_law_56 : decode cL_law 56 = .ok (.ifCond .eq 11, 3) := by decide +kernel
theorem dL_law_59 : decode cL_law 59 = .ok (.aload_n 1, 1) := by decide +kernel
theorem dL_law_60 : decode cL_law 60 = .ok (.invokevirtual 64, 3) := by decide +kernel
theorem dL_law_63 : decode cL_law 63 = .ok (.iconst 1, 1) := by decide +kernel
theorem dL_law_64 : decode cL_law 64 = .ok (.if_icmp .ge 5, 3) := by decide +kernel
theorem dL_law_67 : decode cL_law 67 = .ok (.iconst 0, 1) := by decide +kernel
theorem dL_law_68 : decode cL_law 68 = .ok (.ireturn, 1) := by decide +kernel
theorem dL_law_69 : decode cL_law 69 = .ok (.iconst 0, 1) := by decide +kernel
theorem dL_law_70 : decode cL_law 70 = .ok (.istore 7, 2) := by decide +kernel
theorem dL_law_72 : decode cL_law 72 = .ok (.iload 7, 2) := by decide +kernel
theorem dL_law_74 : decode cL_law 74 = .ok (.iload_n 2, 1) := by decide +kernel
theorem dL_law_75 : decode cL_law 75 = .ok (.if_icmp .ge 39, 3) := by decide +kernel
theorem dL_law_78 : decode cL_law 78 = .ok (.aload 4, 2) := by decide +kernel
theorem dL_law_80 : decode cL_law 80 = .ok (.iload 7, 2) := by decide +kernel
theorem dL_law_82 : decode cL_law 82 = .ok (.aload_n 1, 1) := by decide +kernel
theorem dL_law_83 : decode cL_law 83 = .ok (.iload 7, 2) := by decide +kernel
theorem dL_law_85 : decode cL_law 85 = .ok (.invokevirtual 67, 3) := by decide +kernel
theorem dL_law_88 : decode cL_law 88 = .ok (.dastore, 1) := by decide +kernel
theorem dL_law_89 : decode cL_law 89 = .ok (.aload 5, 2) := by decide +kernel
theorem dL_law_91 : decode cL_law 91 = .ok (.iload 7, 2) := by decide +kernel
theorem dL_law_93 : decode cL_law 93 = .ok (.aload_n 1, 1) := by decide +kernel
theorem dL_law_94 : decode cL_law 94 = .ok (.iload 7, 2) := by decide +kernel
theorem dL_law_96 : decode cL_law 96 = .ok (.invokevirtual 71, 3) := by decide +kernel
theorem dL_law_99 : decode cL_law 99 = .ok (.dastore, 1) := by decide +kernel
theorem dL_law_100 : decode cL_law 100 = .ok (.aload 6, 2) := by decide +kernel
theorem dL_law_102 : decode cL_law 102 = .ok (.iload 7, 2) := by decide +kernel
theorem dL_law_104 : decode cL_law 104 = .ok (.ldc2_w 74, 3) := by decide +kernel
theorem dL_law_107 : decode cL_law 107 = .ok (.dastore, 1) := by decide +kernel
theorem dL_law_108 : decode cL_law 108 = .ok (.iinc 7 1, 3) := by decide +kernel
theorem dL_law_111 : decode cL_law 111 = .ok (.goto (-39), 3) := by decide +kernel
theorem dL_law_114 : decode cL_law 114 = .ok (.iconst 0, 1) := by decide +kernel
theorem dL_law_115 : decode cL_law 115 = .ok (.istore 7, 2) := by decide +kernel
theorem dL_law_117 : decode cL_law 117 = .ok (.iload 7, 2) := by decide +kernel
theorem dL_law_119 : decode cL_law 119 = .ok (.bipush 9, 2) := by decide +kernel
theorem dL_law_121 : decode cL_law 121 = .ok (.if_icmp .ge 869, 3) := by decide +kernel
theorem dL_law_124 : decode cL_law 124 = .ok (.aload_n 0, 1) := by decide +kernel
theorem dL_law_125 : decode cL_law 125 = .ok (.bipush 7, 2) := by decide +kernel
theorem dL_law_127 : decode cL_law 127 = .ok (.iload 7, 2) := by decide +kernel
theorem dL_law_129 : decode cL_law 129 = .ok (.iadd, 1) := by decide +kernel
theorem dL_law_130 : decode cL_law 130 = .ok (.invokestatic 9, 3) := by decide +kernel
theorem dL_law_133 : decode cL_law 133 = .ok (.istore 8, 2) := by decide +kernel
theorem dL_law_135 : decode cL_law 135 = .ok (.iload 8, 2) := by decide +kernel
theorem dL_law_137 : decode cL_law 137 = .ok (.iconst 3, 1) := by decide +kernel
theorem dL_law_138 : decode cL_law 138 = .ok (.ishr, 1) := by decide +kernel
theorem dL_law_139 : decode cL_law 139 = .ok (.iload_n 2, 1) := by decide +kernel
theorem dL_law_140 : decode cL_law 140 = .ok (.invokestatic 15, 3) := by decide +kernel
theorem dL_law_143 : decode cL_law 143 = .ok (.istore 9, 2) := by decide +kernel
theorem dL_law_145 : decode cL_law 145 = .ok (.iload 8, 2) := by decide +kernel
theorem dL_law_147 : decode cL_law 147 = .ok (.bipush 7, 2) := by decide +kernel
theorem dL_law_149 : decode cL_law 149 = .ok (.iand, 1) := by decide +kernel
theorem dL_law_150 : decode cL_law 150 = .ok (.istore 10, 2) := by decide +kernel
theorem dL_law_152 : decode cL_law 152 = .ok (.iload 10, 2) := by decide +kernel
theorem dL_law_154 : decode cL_law 154 = .ok (.iconst 3, 1) := by decide +kernel
theorem dL_law_155 : decode cL_law 155 = .ok (.if_icmp .ge 255, 3) := by decide +kernel
theorem dL_law_158 : decode cL_law 158 = .ok (.aload 4, 2) := by decide +kernel
theorem dL_law_160 : decode cL_law 160 = .ok (.iconst 0, 1) := by decide +kernel
theorem dL_law_161 : decode cL_law 161 = .ok (.daload, 1) := by decide +kernel
theorem dL_law_162 : decode cL_law 162 = .ok (.aload 4, 2) := by decide +kernel
theorem dL_law_164 : decode cL_law 164 = .ok (.iload_n 2, 1) := by decide +kernel
theorem dL_law_165 : decode cL_law 165 = .ok (.iconst 1, 1) := by decide +kernel
theorem dL_law_166 : decode cL_law 166 = .ok (.isub, 1) := by decide +kernel
theorem dL_law_167 : decode cL_law 167 = .ok (.daload, 1) := by decide +kernel
theorem dL_law_168 : decode cL_law 168 = .ok (.aload 4, 2) := by decide +kernel
theorem dL_law_170 : decode cL_law 170 = .ok (.iconst 0, 1) := by decide +kernel
theorem dL_law_171 : decode cL_law 171 = .ok (.daload, 1) := by decide +kernel
theorem dL_law_172 : decode cL_law 172 = .ok (.dsub, 1) := by decide +kernel
theorem dL_law_173 : decode cL_law 173 = .ok (.iconst 1, 1) := by decide +kernel
theorem dL_law_174 : decode cL_law 174 = .ok (.iload 8, 2) := by decide +kernel
theorem dL_law_176 : decode cL_law 176 = .ok (.bipush 8, 2) := by decide +kernel
theorem dL_law_178 : decode cL_law 178 = .ok (.ishr, 1) := by decide +kernel
theorem dL_law_179 : decode cL_law 179 = .ok (.sipush 997, 3) := by decide +kernel
theorem dL_law_182 : decode cL_law 182 = .ok (.invokestatic 15, 3) := by decide +kernel
theorem dL_law_185 : decode cL_law 185 = .ok (.iadd, 1) := by decide +kernel
theorem dL_law_186 : decode cL_law 186 = .ok (.i2d, 1) := by decide +kernel
theorem dL_law_187 : decode cL_law 187 = .ok (.ldc2_w 76, 3) := by decide +kernel
theorem dL_law_190 : decode cL_law 190 = .ok (.ddiv, 1) := by decide +kernel
theorem dL_law_191 : decode cL_law 191 = .ok (.dmul, 1) := by decide +kernel
theorem dL_law_192 : decode cL_law 192 = .ok (.dadd, 1) := by decide +kernel
theorem dL_law_193 : decode cL_law 193 = .ok (.dstore 11, 2) := by decide +kernel
theorem dL_law_195 : decode cL_law 195 = .ok (.aload 4, 2) := by decide +kernel
theorem dL_law_197 : decode cL_law 197 = .ok (.iload_n 2, 1) := by decide +kernel
theorem dL_law_198 : decode cL_law 198 = .ok (.dload 11, 2) := by decide +kernel
theorem dL_law_200 : decode cL_law 200 = .ok (.invokestatic 49, 3) := by decide +kernel
theorem dL_law_203 : decode cL_law 203 = .ok (.istore 13, 2) := by decide +kernel
theorem dL_law_205 : decode cL_law 205 = .ok (.dload 11, 2) := by decide +kernel
theorem dL_law_207 : decode cL_law 207 = .ok (.aload 4, 2) := by decide +kernel
theorem dL_law_209 : decode cL_law 209 = .ok (.iload 13, 2) := by decide +kernel
theorem dL_law_211 : decode cL_law 211 = .ok (.daload, 1) := by decide +kernel
theorem dL_law_212 : decode cL_law 212 = .ok (.dsub, 1) := by decide +kernel
theorem dL_law_213 : decode cL_law 213 = .ok (.ldc2_w 78, 3) := by decide +kernel
theorem dL_law_216 : decode cL_law 216 = .ok (.dcmp .g, 1) := by decide +kernel
theorem dL_law_217 : decode cL_law 217 = .ok (.ifCond .lt 767, 3) := by decide +kernel
theorem dL_law_220 : decode cL_law 220 = .ok (.aload 4, 2) := by decide +kernel
theorem dL_law_222 : decode cL_law 222 = .ok (.iload 13, 2) := by decide +kernel
theorem dL_law_224 : decode cL_law 224 = .ok (.iconst 1, 1) := by decide +kernel
theorem dL_law_225 : decode cL_law 225 = .ok (.iadd, 1) := by decide +kernel
theorem dL_law_226 : decode cL_law 226 = .ok (.daload, 1) := by decide +kernel
theorem dL_law_227 : decode cL_law 227 = .ok (.dload 11, 2) := by decide +kernel
theorem dL_law_229 : decode cL_law 229 = .ok (.dsub, 1) := by decide +kernel
theorem dL_law_230 : decode cL_law 230 = .ok (.ldc2_w 78, 3) := by decide +kernel
theorem dL_law_233 : decode cL_law 233 = .ok (.dcmp .g, 1) := by decide +kernel
theorem dL_law_234 : decode cL_law 234 = .ok (.ifCond .ge 6, 3) := by decide +kernel
theorem dL_law_237 : decode cL_law 237 = .ok (.goto 747, 3) := by decide +kernel
theorem dL_law_240 : decode cL_law 240 = .ok (.aload 4, 2) := by decide +kernel
theorem dL_law_242 : decode cL_law 242 = .ok (.aload 5, 2) := by decide +kernel
theorem dL_law_244 : decode cL_law 244 = .ok (.aload 6, 2) := by decide +kernel
theorem dL_law_246 : decode cL_law 246 = .ok (.iload_n 2, 1) := by decide +kernel
theorem dL_law_247 : decode cL_law 247 = .ok (.iload 13, 2) := by decide +kernel
theorem dL_law_249 : decode cL_law 249 = .ok (.dload 11, 2) := by decide +kernel
theorem dL_law_251 : decode cL_law 251 = .ok (.aload 4, 2) := by decide +kernel
theorem dL_law_253 : decode cL_law 253 = .ok (.iload 13, 2) := by decide +kernel
theorem dL_law_255 : decode cL_law 255 = .ok (.daload, 1) := by decide +kernel
theorem dL_law_256 : decode cL_law 256 = .ok (.dsub, 1) := by decide +kernel
theorem dL_law_257 : decode cL_law 257 = .ok (.iconst 0, 1) := by decide +kernel
theorem dL_law_258 : decode cL_law 258 = .ok (.invokestatic 53, 3) := by decide +kernel
theorem dL_law_261 : decode cL_law 261 = .ok (.dstore 14, 2) := by decide +kernel
theorem dL_law_263 : decode cL_law 263 = .ok (.aload 4, 2) := by decide +kernel
theorem dL_law_265 : decode cL_law 265 = .ok (.aload 5, 2) := by decide +kernel
theorem dL_law_267 : decode cL_law 267 = .ok (.aload 6, 2) := by decide +kernel
theorem dL_law_269 : decode cL_law 269 = .ok (.iload_n 2, 1) := by decide +kernel
theorem dL_law_270 : decode cL_law 270 = .ok (.iload 13, 2) := by decide +kernel
theorem dL_law_272 : decode cL_law 272 = .ok (.dload 11, 2) := by decide +kernel
theorem dL_law_274 : decode cL_law 274 = .ok (.aload 4, 2) := by decide +kernel
theorem dL_law_276 : decode cL_law 276 = .ok (.iload 13, 2) := by decide +kernel
theorem dL_law_278 : decode cL_law 278 = .ok (.daload, 1) := by decide +kernel
theorem dL_law_279 : decode cL_law 279 = .ok (.dsub, 1) := by decide +kernel
theorem dL_law_280 : decode cL_law 280 = .ok (.iconst 1, 1) := by decide +kernel
theorem dL_law_281 : decode cL_law 281 = .ok (.invokestatic 53, 3) := by decide +kernel
theorem dL_law_284 : decode cL_law 284 = .ok (.dstore 16, 2) := by decide +kernel
theorem dL_law_286 : decode cL_law 286 = .ok (.aload_n 1, 1) := by decide +kernel
theorem dL_law_287 : decode cL_law 287 = .ok (.dload 11, 2) := by decide +kernel
theorem dL_law_289 : decode cL_law 289 = .ok (.invokevirtual 80, 3) := by decide +kernel
theorem dL_law_292 : decode cL_law 292 = .ok (.iload 13, 2) := by decide +kernel
theorem dL_law_294 : decode cL_law 294 = .ok (.iconst 1, 1) := by decide +kernel
theorem dL_law_295 : decode cL_law 295 = .ok (.iadd, 1) := by decide +kernel
theorem dL_law_296 : decode cL_law 296 = .ok (.if_icmp .eq 5, 3) := by decide +kernel
theorem dL_law_299 : decode cL_law 299 = .ok (.iconst 0, 1) := by decide +kernel
theorem dL_law_300 : decode cL_law 300 = .ok (.ireturn, 1) := by decide +kernel
theorem dL_law_301 : decode cL_law 301 = .ok (.iload_n 2, 1) := by decide +kernel
theorem dL_law_302 : decode cL_law 302 = .ok (.istore 18, 2) := by decide +kernel
theorem dL_law_304 : decode cL_law 304 = .ok (.iload 18, 2) := by decide +kernel
theorem dL_law_306 : decode cL_law 306 = .ok (.iload 13, 2) := by decide +kernel
theorem dL_law_308 : decode cL_law 308 = .ok (.iconst 1, 1) := by decide +kernel
theorem dL_law_309 : decode cL_law 309 = .ok (.iadd, 1) := by decide +kernel
theorem dL_law_310 : decode cL_law 310 = .ok (.if_icmp .le 45, 3) := by decide +kernel
theorem dL_law_313 : decode cL_law 313 = .ok (.aload 4, 2) := by decide +kernel
theorem dL_law_315 : decode cL_law 315 = .ok (.iload 18, 2) := by decide +kernel
theorem dL_law_317 : decode cL_law 317 = .ok (.aload 4, 2) := by decide +kernel
theorem dL_law_319 : decode cL_law 319 = .ok (.iload 18, 2) := by decide +kernel
theorem dL_law_321 : decode cL_law 321 = .ok (.iconst 1, 1) := by decide +kernel
theorem dL_law_322 : decode cL_law 322 = .ok (.isub, 1) := by decide +kernel
theorem dL_law_323 : decode cL_law 323 = .ok (.daload, 1) := by decide +kernel
theorem dL_law_324 : decode cL_law 324 = .ok (.dastore, 1) := by decide +kernel
theorem dL_law_325 : decode cL_law 325 = .ok (.aload 5, 2) := by decide +kernel
theorem dL_law_327 : decode cL_law 327 = .ok (.iload 18, 2) := by decide +kernel
theorem dL_law_329 : decode cL_law 329 = .ok (.aload 5, 2) := by decide +kernel
theorem dL_law_331 : decode cL_law 331 = .ok (.iload 18, 2) := by decide +kernel
theorem dL_law_333 : decode cL_law 333 = .ok (.iconst 1, 1) := by decide +kernel
theorem dL_law_334 : decode cL_law 334 = .ok (.isub, 1) := by decide +kernel
theorem dL_law_335 : decode cL_law 335 = .ok (.daload, 1) := by decide +kernel
theorem dL_law_336 : decode cL_law 336 = .ok (.dastore, 1) := by decide +kernel
theorem dL_law_337 : decode cL_law 337 = .ok (.aload 6, 2) := by decide +kernel
theorem dL_law_339 : decode cL_law 339 = .ok (.iload 18, 2) := by decide +kernel
theorem dL_law_341 : decode cL_law 341 = .ok (.aload 6, 2) := by decide +kernel
theorem dL_law_343 : decode cL_law 343 = .ok (.iload 18, 2) := by decide +kernel
theorem dL_law_345 : decode cL_law 345 = .ok (.iconst 1, 1) := by decide +kernel
theorem dL_law_346 : decode cL_law 346 = .ok (.isub, 1) := by decide +kernel
theorem dL_law_347 : decode cL_law 347 = .ok (.daload, 1) := by decide +kernel
theorem dL_law_348 : decode cL_law 348 = .ok (.dastore, 1) := by decide +kernel
theorem dL_law_349 : decode cL_law 349 = .ok (.iinc 18 (-1), 3) := by decide +kernel
theorem dL_law_352 : decode cL_law 352 = .ok (.goto (-48), 3) := by decide +kernel
theorem dL_law_355 : decode cL_law 355 = .ok (.iinc 2 1, 3) := by decide +kernel
theorem dL_law_358 : decode cL_law 358 = .ok (.aload 4, 2) := by decide +kernel
theorem dL_law_360 : decode cL_law 360 = .ok (.iload 13, 2) := by decide +kernel
theorem dL_law_362 : decode cL_law 362 = .ok (.iconst 1, 1) := by decide +kernel
theorem dL_law_363 : decode cL_law 363 = .ok (.iadd, 1) := by decide +kernel
theorem dL_law_364 : decode cL_law 364 = .ok (.dload 11, 2) := by decide +kernel
theorem dL_law_366 : decode cL_law 366 = .ok (.dastore, 1) := by decide +kernel
theorem dL_law_367 : decode cL_law 367 = .ok (.aload 5, 2) := by decide +kernel
theorem dL_law_369 : decode cL_law 369 = .ok (.iload 13, 2) := by decide +kernel
theorem dL_law_371 : decode cL_law 371 = .ok (.iconst 1, 1) := by decide +kernel
theorem dL_law_372 : decode cL_law 372 = .ok (.iadd, 1) := by decide +kernel
theorem dL_law_373 : decode cL_law 373 = .ok (.dload 14, 2) := by decide +kernel
theorem dL_law_375 : decode cL_law 375 = .ok (.aload 5, 2) := by decide +kernel
theorem dL_law_377 : decode cL_law 377 = .ok (.iload 13, 2) := by decide +kernel
theorem dL_law_379 : decode cL_law 379 = .ok (.daload, 1) := by decide +kernel
theorem dL_law_380 : decode cL_law 380 = .ok (.invokestatic 84, 3) := by decide +kernel
theorem dL_law_383 : decode cL_law 383 = .ok (.aload 5, 2) := by decide +kernel
theorem dL_law_385 : decode cL_law 385 = .ok (.iload 13, 2) := by decide +kernel
theorem dL_law_387 : decode cL_law 387 = .ok (.iconst 2, 1) := by decide +kernel
theorem dL_law_388 : decode cL_law 388 = .ok (.iadd, 1) := by decide +kernel
theorem dL_law_389 : decode cL_law 389 = .ok (.daload, 1) := by decide +kernel
theorem dL_law_390 : decode cL_law 390 = .ok (.invokestatic 35, 3) := by decide +kernel
theorem dL_law_393 : decode cL_law 393 = .ok (.dastore, 1) := by decide +kernel
theorem dL_law_394 : decode cL_law 394 = .ok (.aload 6, 2) := by decide +kernel
theorem dL_law_396 : decode cL_law 396 = .ok (.iload 13, 2) := by decide +kernel
theorem dL_law_398 : decode cL_law 398 = .ok (.iconst 1, 1) := by decide +kernel
theorem dL_law_399 : decode cL_law 399 = .ok (.iadd, 1) := by decide +kernel
theorem dL_law_400 : decode cL_law 400 = .ok (.dload 16, 2) := by decide +kernel
theorem dL_law_402 : decode cL_law 402 = .ok (.dconst 0, 1) := by decide +kernel
theorem dL_law_403 : decode cL_law 403 = .ok (.invokestatic 84, 3) := by decide +kernel
theorem dL_law_406 : decode cL_law 406 = .ok (.dastore, 1) := by decide +kernel
theorem dL_law_407 : decode cL_law 407 = .ok (.goto 332, 3) := by decide +kernel
theorem dL_law_410 : decode cL_law 410 = .ok (.iload 10, 2) := by decide +kernel
theorem dL_law_412 : decode cL_law 412 = .ok (.iconst 3, 1) := by decide +kernel
theorem dL_law_413 : decode cL_law 413 = .ok (.if_icmp .ne 86, 3) := by decide +kernel
theorem dL_law_416 : decode cL_law 416 = .ok (.iload 9, 2) := by decide +kernel
theorem dL_law_418 : decode cL_law 418 = .ok (.ifCond .le 81, 3) := by decide +kernel
theorem dL_law_421 : decode cL_law 421 = .ok (.iload 9, 2) := by decide +kernel
theorem dL_law_423 : decode cL_law 423 = .ok (.iload_n 2, 1) := by decide +kernel
theorem dL_law_424 : decode cL_law 424 = .ok (.iconst 1, 1) := by decide +kernel
theorem dL_law_425 : decode cL_law 425 = .ok (.isub, 1) := by decide +kernel
theorem dL_law_426 : decode cL_law 426 = .ok (.if_icmp .ge 73, 3) := by decide +kernel
theorem dL_law_429 : decode cL_law 429 = .ok (.iinc 2 (-1), 3) := by decide +kernel
theorem dL_law_432 : decode cL_law 432 = .ok (.aload_n 1, 1) := by decide +kernel
theorem dL_law_433 : decode cL_law 433 = .ok (.iload 9, 2) := by decide +kernel
theorem dL_law_435 : decode cL_law 435 = .ok (.invokevirtual 87, 3) := by decide +kernel
theorem dL_law_438 : decode cL_law 438 = .ok (.iload_n 2, 1) := by decide +kernel
theorem dL_law_439 : decode cL_law 439 = .ok (.if_icmp .eq 5, 3) := by decide +kernel
theorem dL_law_442 : decode cL_law 442 = .ok (.iconst 0, 1) := by decide +kernel
theorem dL_law_443 : decode cL_law 443 = .ok (.ireturn, 1) := by decide +kernel
theorem dL_law_444 : decode cL_law 444 = .ok (.iload 9, 2) := by decide +kernel
theorem dL_law_446 : decode cL_law 446 = .ok (.istore 11, 2) := by decide +kernel
theorem dL_law_448 : decode cL_law 448 = .ok (.iload 11, 2) := by decide +kernel
theorem dL_law_450 : decode cL_law 450 = .ok (.iload_n 2, 1) := by decide +kernel
theorem dL_law_451 : decode cL_law 451 = .ok (.if_icmp .ge 45, 3) := by decide +kernel
theorem dL_law_454 : decode cL_law 454 = .ok (.aload 4, 2) := by decide +kernel
theorem dL_law_456 : decode cL_law 456 = .ok (.iload 11, 2) := by decide +kernel
theorem dL_law_458 : decode cL_law 458 = .ok (.aload 4, 2) := by decide +kernel
theorem dL_law_460 : decode cL_law 460 = .ok (.iload 11, 2) := by decide +kernel
theorem dL_law_462 : decode cL_law 462 = .ok (.iconst 1, 1) := by decide +kernel
theorem dL_law_463 : decode cL_law 463 = .ok (.iadd, 1) := by decide +kernel
theorem dL_law_464 : decode cL_law 464 = .ok (.daload, 1) := by decide +kernel
theorem dL_law_465 : decode cL_law 465 = .ok (.dastore, 1) := by decide +kernel
theorem dL_law_466 : decode cL_law 466 = .ok (.aload 5, 2) := by decide +kernel
theorem dL_law_468 : decode cL_law 468 = .ok (.iload 11, 2) := by decide +kernel
theorem dL_law_470 : decode cL_law 470 = .ok (.aload 5, 2) := by decide +kernel
theorem dL_law_472 : decode cL_law 472 = .ok (.iload 11, 2) := by decide +kernel
theorem dL_law_474 : decode cL_law 474 = .ok (.iconst 1, 1) := by decide +kernel
theorem dL_law_475 : decode cL_law 475 = .ok (.iadd, 1) := by decide +kernel
theorem dL_law_476 : decode cL_law 476 = .ok (.daload, 1) := by decide +kernel
theorem dL_law_477 : decode cL_law 477 = .ok (.dastore, 1) := by decide +kernel
theorem dL_law_478 : decode cL_law 478 = .ok (.aload 6, 2) := by decide +kernel
theorem dL_law_480 : decode cL_law 480 = .ok (.iload 11, 2) := by decide +kernel
theorem dL_law_482 : decode cL_law 482 = .ok (.aload 6, 2) := by decide +kernel
theorem dL_law_484 : decode cL_law 484 = .ok (.iload 11, 2) := by decide +kernel
theorem dL_law_486 : decode cL_law 486 = .ok (.iconst 1, 1) := by decide +kernel
theorem dL_law_487 : decode cL_law 487 = .ok (.iadd, 1) := by decide +kernel
theorem dL_law_488 : decode cL_law 488 = .ok (.daload, 1) := by decide +kernel
theorem dL_law_489 : decode cL_law 489 = .ok (.dastore, 1) := by decide +kernel
theorem dL_law_490 : decode cL_law 490 = .ok (.iinc 11 1, 3) := by decide +kernel
theorem dL_law_493 : decode cL_law 493 = .ok (.goto (-45), 3) := by decide +kernel
theorem dL_law_496 : decode cL_law 496 = .ok (.goto 243, 3) := by decide +kernel
theorem dL_law_499 : decode cL_law 499 = .ok (.iload 10, 2) := by decide +kernel
theorem dL_law_501 : decode cL_law 501 = .ok (.iconst 4, 1) := by decide +kernel
theorem dL_law_502 : decode cL_law 502 = .ok (.if_icmp .ne 40, 3) := by decide +kernel
theorem dL_law_505 : decode cL_law 505 = .ok (.aload_n 1, 1) := by decide +kernel
theorem dL_law_506 : decode cL_law 506 = .ok (.iload 9, 2) := by decide +kernel
theorem dL_law_508 : decode cL_law 508 = .ok (.invokevirtual 91, 3) := by decide +kernel
theorem dL_law_511 : decode cL_law 511 = .ok (.aload 6, 2) := by decide +kernel
theorem dL_law_513 : decode cL_law 513 = .ok (.iload 9, 2) := by decide +kernel
theorem dL_law_515 : decode cL_law 515 = .ok (.daload, 1) := by decide +kernel
theorem dL_law_516 : decode cL_law 516 = .ok (.dconst 0, 1) := by decide +kernel
theorem dL_law_517 : decode cL_law 517 = .ok (.dcmp .l, 1) := by decide +kernel
theorem dL_law_518 : decode cL_law 518 = .ok (.ifCond .lt 7, 3) := by decide +kernel
theorem dL_law_521 : decode cL_law 521 = .ok (.iconst 1, 1) := by decide +kernel
theorem dL_law_522 : decode cL_law 522 = .ok (.goto 4, 3) := by decide +kernel
theorem dL_law_525 : decode cL_law 525 = .ok (.iconst 0, 1) := by decide +kernel
theorem dL_law_526 : decode cL_law 526 = .ok (.if_icmp .eq 5, 3) := by decide +kernel
theorem dL_law_529 : decode cL_law 529 = .ok (.iconst 0, 1) := by decide +kernel
theorem dL_law_530 : decode cL_law 530 = .ok (.ireturn, 1) := by decide +kernel
theorem dL_law_531 : decode cL_law 531 = .ok (.aload 6, 2) := by decide +kernel
theorem dL_law_533 : decode cL_law 533 = .ok (.iload 9, 2) := by decide +kernel
theorem dL_law_535 : decode cL_law 535 = .ok (.ldc2_w 74, 3) := by decide +kernel
theorem dL_law_538 : decode cL_law 538 = .ok (.dastore, 1) := by decide +kernel
theorem dL_law_539 : decode cL_law 539 = .ok (.goto 200, 3) := by decide +kernel
theorem dL_law_542 : decode cL_law 542 = .ok (.iload 10, 2) := by decide +kernel
theorem dL_law_544 : decode cL_law 544 = .ok (.iconst 5, 1) := by decide +kernel
theorem dL_law_545 : decode cL_law 545 = .ok (.if_icmp .ne 144, 3) := by decide +kernel
theorem dL_law_548 : decode cL_law 548 = .ok (.iload 9, 2) := by decide +kernel
theorem dL_law_550 : decode cL_law 550 = .ok (.ifCond .ne 14, 3) := by decide +kernel
theorem dL_law_553 : decode cL_law 553 = .ok (.aload 5, 2) := by decide +kernel
theorem dL_law_555 : decode cL_law 555 = .ok (.iconst 0, 1) := by decide +kernel
theorem dL_law_556 : decode cL_law 556 = .ok (.daload, 1) := by decide +kernel
theorem dL_law_557 : decode cL_law 557 = .ok (.ldc2_w 95, 3) := by decide +kernel
theorem dL_law_560 : decode cL_law 560 = .ok (.dsub, 1) := by decide +kernel
theorem dL_law_561 : decode cL_law 561 = .ok (.goto 10, 3) := by decide +kernel
theorem dL_law_564 : decode cL_law 564 = .ok (.aload 5, 2) := by decide +kernel
theorem dL_law_566 : decode cL_law 566 = .ok (.iload 9, 2) := by decide +kernel
theorem dL_law_568 : decode cL_law 568 = .ok (.iconst 1, 1) := by decide +kernel
theorem dL_law_569 : decode cL_law 569 = .ok (.isub, 1) := by decide +kernel
theorem dL_law_570 : decode cL_law 570 = .ok (.daload, 1) := by decide +kernel
theorem dL_law_571 : decode cL_law 571 = .ok (.dstore 11, 2) := by decide +kernel
theorem dL_law_573 : decode cL_law 573 = .ok (.iload 9, 2) := by decide +kernel
theorem dL_law_575 : decode cL_law 575 = .ok (.iload_n 2, 1) := by decide +kernel
theorem dL_law_576 : decode cL_law 576 = .ok (.iconst 1, 1) := by decide +kernel
theorem dL_law_577 : decode cL_law 577 = .ok (.isub, 1) := by decide +kernel
theorem dL_law_578 : decode cL_law 578 = .ok (.if_icmp .ne 16, 3) := by decide +kernel
theorem dL_law_581 : decode cL_law 581 = .ok (.aload 5, 2) := by decide +kernel
theorem dL_law_583 : decode cL_law 583 = .ok (.iload_n 2, 1) := by decide +kernel
theorem dL_law_584 : decode cL_law 584 = .ok (.iconst 1, 1) := by decide +kernel
theorem dL_law_585 : decode cL_law 585 = .ok (.isub, 1) := by decide +kernel
theorem dL_law_586 : decode cL_law 586 = .ok (.daload, 1) := by decide +kernel
theorem dL_law_587 : decode cL_law 587 = .ok (.ldc2_w 95, 3) := by decide +kernel
theorem dL_law_590 : decode cL_law 590 = .ok (.dadd, 1) := by decide +kernel
theorem dL_law_591 : decode cL_law 591 = .ok (.goto 10, 3) := by decide +kernel
theorem dL_law_594 : decode cL_law 594 = .ok (.aload 5, 2) := by decide +kernel
theorem dL_law_596 : decode cL_law 596 = .ok (.iload 9, 2) := by decide +kernel
theorem dL_law_598 : decode cL_law 598 = .ok (.iconst 1, 1) := by decide +kernel
theorem dL_law_599 : decode cL_law 599 = .ok (.iadd, 1) := by decide +kernel
theorem dL_law_600 : decode cL_law 600 = .ok (.daload, 1) := by decide +kernel
theorem dL_law_601 : decode cL_law 601 = .ok (.dstore 13, 2) := by decide +kernel
theorem dL_law_603 : decode cL_law 603 = .ok (.dload 11, 2) := by decide +kernel
theorem dL_law_605 : decode cL_law 605 = .ok (.dload 13, 2) := by decide +kernel
theorem dL_law_607 : decode cL_law 607 = .ok (.dload 11, 2) := by decide +kernel
theorem dL_law_609 : decode cL_law 609 = .ok (.dsub, 1) := by decide +kernel
theorem dL_law_610 : decode cL_law 610 = .ok (.iload 8, 2) := by decide +kernel
theorem dL_law_612 : decode cL_law 612 = .ok (.bipush 8, 2) := by decide +kernel
theorem dL_law_614 : decode cL_law 614 = .ok (.ishr, 1) := by decide +kernel
theorem dL_law_615 : decode cL_law 615 = .ok (.bipush 101, 2) := by decide +kernel
theorem dL_law_617 : decode cL_law 617 = .ok (.invokestatic 15, 3) := by decide +kernel
theorem dL_law_620 : decode cL_law 620 = .ok (.i2d, 1) := by decide +kernel
theorem dL_law_621 : decode cL_law 621 = .ok (.ldc2_w 97, 3) := by decide +kernel
theorem dL_law_624 : decode cL_law 624 = .ok (.ddiv, 1) := by decide +kernel
theorem dL_law_625 : decode cL_law 625 = .ok (.dmul, 1) := by decide +kernel
theorem dL_law_626 : decode cL_law 626 = .ok (.dadd, 1) := by decide +kernel
theorem dL_law_627 : decode cL_law 627 = .ok (.dstore 15, 2) := by decide +kernel
theorem dL_law_629 : decode cL_law 629 = .ok (.dload 15, 2) := by decide +kernel
theorem dL_law_631 : decode cL_law 631 = .ok (.dload 11, 2) := by decide +kernel
theorem dL_law_633 : decode cL_law 633 = .ok (.dcmp .g, 1) := by decide +kernel
theorem dL_law_634 : decode cL_law 634 = .ok (.ifCond .lt 350, 3) := by decide +kernel
theorem dL_law_637 : decode cL_law 637 = .ok (.dload 15, 2) := by decide +kernel
theorem dL_law_639 : decode cL_law 639 = .ok (.dload 13, 2) := by decide +kernel
theorem dL_law_641 : decode cL_law 641 = .ok (.dcmp .l, 1) := by decide +kernel
theorem dL_law_642 : decode cL_law 642 = .ok (.ifCond .gt 342, 3) := by decide +kernel
theorem dL_law_645 : decode cL_law 645 = .ok (.dload 15, 2) := by decide +kernel
theorem dL_law_647 : decode cL_law 647 = .ok (.invokestatic 99, 3) := by decide +kernel
theorem dL_law_650 : decode cL_law 650 = .ok (.ldc2_w 103, 3) := by decide +kernel
theorem dL_law_653 : decode cL_law 653 = .ok (.dcmp .g, 1) := by decide +kernel
theorem dL_law_654 : decode cL_law 654 = .ok (.ifCond .ge 6, 3) := by decide +kernel
theorem dL_law_657 : decode cL_law 657 = .ok (.goto 327, 3) := by decide +kernel
theorem dL_law_660 : decode cL_law 660 = .ok (.aload_n 1, 1) := by decide +kernel
theorem dL_law_661 : decode cL_law 661 = .ok (.iload 9, 2) := by decide +kernel
theorem dL_law_663 : decode cL_law 663 = .ok (.dload 15, 2) := by decide +kernel
theorem dL_law_665 : decode cL_law 665 = .ok (.invokevirtual 105, 3) := by decide +kernel
theorem dL_law_668 : decode cL_law 668 = .ok (.aload 5, 2) := by decide +kernel
theorem dL_law_670 : decode cL_law 670 = .ok (.iload 9, 2) := by decide +kernel
theorem dL_law_672 : decode cL_law 672 = .ok (.daload, 1) := by decide +kernel
theorem dL_law_673 : decode cL_law 673 = .ok (.dcmp .l, 1) := by decide +kernel
theorem dL_law_674 : decode cL_law 674 = .ok (.ifCond .eq 5, 3) := by decide +kernel
theorem dL_law_677 : decode cL_law 677 = .ok (.iconst 0, 1) := by decide +kernel
theorem dL_law_678 : decode cL_law 678 = .ok (.ireturn, 1) := by decide +kernel
theorem dL_law_679 : decode cL_law 679 = .ok (.aload 5, 2) := by decide +kernel
theorem dL_law_681 : decode cL_law 681 = .ok (.iload 9, 2) := by decide +kernel
theorem dL_law_683 : decode cL_law 683 = .ok (.dload 15, 2) := by decide +kernel
theorem dL_law_685 : decode cL_law 685 = .ok (.dastore, 1) := by decide +kernel
theorem dL_law_686 : decode cL_law 686 = .ok (.goto 53, 3) := by decide +kernel
theorem dL_law_689 : decode cL_law 689 = .ok (.aload 6, 2) := by decide +kernel
theorem dL_law_691 : decode cL_law 691 = .ok (.iload 9, 2) := by decide +kernel
theorem dL_law_693 : decode cL_law 693 = .ok (.iload 8, 2) := by decide +kernel
theorem dL_law_695 : decode cL_law 695 = .ok (.bipush 8, 2) := by decide +kernel
theorem dL_law_697 : decode cL_law 697 = .ok (.ishr, 1) := by decide +kernel
theorem dL_law_698 : decode cL_law 698 = .ok (.sipush 500, 3) := by decide +kernel
theorem dL_law_701 : decode cL_law 701 = .ok (.invokestatic 15, 3) := by decide +kernel
theorem dL_law_704 : decode cL_law 704 = .ok (.i2d, 1) := by decide +kernel
theorem dL_law_705 : decode cL_law 705 = .ok (.ldc2_w 109, 3) := by decide +kernel
theorem dL_law_708 : decode cL_law 708 = .ok (.ddiv, 1) := by decide +kernel
theorem dL_law_709 : decode cL_law 709 = .ok (.dastore, 1) := by decide +kernel
theorem dL_law_710 : decode cL_law 710 = .ok (.aload_n 1, 1) := by decide +kernel
theorem dL_law_711 : decode cL_law 711 = .ok (.iload 9, 2) := by decide +kernel
theorem dL_law_713 : decode cL_law 713 = .ok (.aload 6, 2) := by decide +kernel
theorem dL_law_715 : decode cL_law 715 = .ok (.iload 9, 2) := by decide +kernel
theorem dL_law_717 : decode cL_law 717 = .ok (.daload, 1) := by decide +kernel
theorem dL_law_718 : decode cL_law 718 = .ok (.invokevirtual 111, 3) := by decide +kernel
theorem dL_law_721 : decode cL_law 721 = .ok (.aload 4, 2) := by decide +kernel
theorem dL_law_723 : decode cL_law 723 = .ok (.aload 5, 2) := by decide +kernel
theorem dL_law_725 : decode cL_law 725 = .ok (.aload 6, 2) := by decide +kernel
theorem dL_law_727 : decode cL_law 727 = .ok (.iload_n 2, 1) := by decide +kernel
theorem dL_law_728 : decode cL_law 728 = .ok (.iload 9, 2) := by decide +kernel
theorem dL_law_730 : decode cL_law 730 = .ok (.invokestatic 43, 3) := by decide +kernel
theorem dL_law_733 : decode cL_law 733 = .ok (.dcmp .l, 1) := by decide +kernel
theorem dL_law_734 : decode cL_law 734 = .ok (.ifCond .eq 5, 3) := by decide +kernel
theorem dL_law_737 : decode cL_law 737 = .ok (.iconst 0, 1) := by decide +kernel
theorem dL_law_738 : decode cL_law 738 = .ok (.ireturn, 1) := by decide +kernel
theorem dL_law_739 : decode cL_law 739 = .ok (.iconst 0, 1) := by decide +kernel
theorem dL_law_740 : decode cL_law 740 = .ok (.istore 11, 2) := by decide +kernel
theorem dL_law_742 : decode cL_law 742 = .ok (.iload 11, 2) := by decide +kernel
theorem dL_law_744 : decode cL_law 744 = .ok (.iload_n 2, 1) := by decide +kernel
theorem dL_law_745 : decode cL_law 745 = .ok (.if_icmp .ge 87, 3) := by decide +kernel
theorem dL_law_748 : decode cL_law 748 = .ok (.aload_n 1, 1) := by decide +kernel
theorem dL_law_749 : decode cL_law 749 = .ok (.iload 11, 2) := by decide +kernel
theorem dL_law_751 : decode cL_law 751 = .ok (.invokevirtual 67, 3) := by decide +kernel
theorem dL_law_754 : decode cL_law 754 = .ok (.aload 4, 2) := by decide +kernel
theorem dL_law_756 : decode cL_law 756 = .ok (.iload 11, 2) := by decide +kernel
theorem dL_law_758 : decode cL_law 758 = .ok (.daload, 1) := by decide +kernel
theorem dL_law_759 : decode cL_law 759 = .ok (.dcmp .l, 1) := by decide +kernel
theorem dL_law_760 : decode cL_law 760 = .ok (.ifCond .ne 64, 3) := by decide +kernel
theorem dL_law_763 : decode cL_law 763 = .ok (.aload_n 1, 1) := by decide +kernel
theorem dL_law_764 : decode cL_law 764 = .ok (.iload 11, 2) := by decide +kernel
theorem dL_law_766 : decode cL_law 766 = .ok (.invokevirtual 71, 3) := by decide +kernel
theorem dL_law_769 : decode cL_law 769 = .ok (.aload 5, 2) := by decide +kernel
theorem dL_law_771 : decode cL_law 771 = .ok (.iload 11, 2) := by decide +kernel
theorem dL_law_773 : decode cL_law 773 = .ok (.daload, 1) := by decide +kernel
theorem dL_law_774 : decode cL_law 774 = .ok (.dcmp .l, 1) := by decide +kernel
theorem dL_law_775 : decode cL_law 775 = .ok (.ifCond .ne 49, 3) := by decide +kernel
theorem dL_law_778 : decode cL_law 778 = .ok (.aload_n 1, 1) := by decide +kernel
theorem dL_law_779 : decode cL_law 779 = .ok (.iload 11, 2) := by decide +kernel
theorem dL_law_781 : decode cL_law 781 = .ok (.invokevirtual 114, 3) := by decide +kernel
theorem dL_law_784 : decode cL_law 784 = .ok (.aload 6, 2) := by decide +kernel
theorem dL_law_786 : decode cL_law 786 = .ok (.iload 11, 2) := by decide +kernel
theorem dL_law_788 : decode cL_law 788 = .ok (.daload, 1) := by decide +kernel
theorem dL_law_789 : decode cL_law 789 = .ok (.dconst 0, 1) := by decide +kernel
theorem dL_law_790 : decode cL_law 790 = .ok (.dcmp .l, 1) := by decide +kernel
theorem dL_law_791 : decode cL_law 791 = .ok (.ifCond .lt 7, 3) := by decide +kernel
theorem dL_law_794 : decode cL_law 794 = .ok (.iconst 1, 1) := by decide +kernel
theorem dL_law_795 : decode cL_law 795 = .ok (.goto 4, 3) := by decide +kernel
theorem dL_law_798 : decode cL_law 798 = .ok (.iconst 0, 1) := by decide +kernel
theorem dL_law_799 : decode cL_law 799 = .ok (.if_icmp .ne 25, 3) := by decide +kernel
theorem dL_law_802 : decode cL_law 802 = .ok (.aload_n 1, 1) := by decide +kernel
theorem dL_law_803 : decode cL_law 803 = .ok (.iload 11, 2) := by decide +kernel
theorem dL_law_805 : decode cL_law 805 = .ok (.invokevirtual 117, 3) := by decide +kernel
theorem dL_law_808 : decode cL_law 808 = .ok (.aload 4, 2) := by decide +kernel
theorem dL_law_810 : decode cL_law 810 = .ok (.aload 5, 2) := by decide +kernel
theorem dL_law_812 : decode cL_law 812 = .ok (.aload 6, 2) := by decide +kernel
theorem dL_law_814 : decode cL_law 814 = .ok (.iload_n 2, 1) := by decide +kernel
theorem dL_law_815 : decode cL_law 815 = .ok (.iload 11, 2) := by decide +kernel
theorem dL_law_817 : decode cL_law 817 = .ok (.invokestatic 43, 3) := by decide +kernel
theorem dL_law_820 : decode cL_law 820 = .ok (.dcmp .l, 1) := by decide +kernel
theorem dL_law_821 : decode cL_law 821 = .ok (.ifCond .eq 5, 3) := by decide +kernel
theorem dL_law_824 : decode cL_law 824 = .ok (.iconst 0, 1) := by decide +kernel
theorem dL_law_825 : decode cL_law 825 = .ok (.ireturn, 1) := by decide +kernel
theorem dL_law_826 : decode cL_law 826 = .ok (.iinc 11 1, 3) := by decide +kernel
theorem dL_law_829 : decode cL_law 829 = .ok (.goto (-87), 3) := by decide +kernel
theorem dL_law_832 : decode cL_law 832 = .ok (.aload 4, 2) := by decide +kernel
theorem dL_law_834 : decode cL_law 834 = .ok (.iconst 0, 1) := by decide +kernel
theorem dL_law_835 : decode cL_law 835 = .ok (.daload, 1) := by decide +kernel
theorem dL_law_836 : decode cL_law 836 = .ok (.aload 4, 2) := by decide +kernel
theorem dL_law_838 : decode cL_law 838 = .ok (.iload_n 2, 1) := by decide +kernel
theorem dL_law_839 : decode cL_law 839 = .ok (.iconst 1, 1) := by decide +kernel
theorem dL_law_840 : decode cL_law 840 = .ok (.isub, 1) := by decide +kernel
theorem dL_law_841 : decode cL_law 841 = .ok (.daload, 1) := by decide +kernel
theorem dL_law_842 : decode cL_law 842 = .ok (.aload 4, 2) := by decide +kernel
theorem dL_law_844 : decode cL_law 844 = .ok (.iconst 0, 1) := by decide +kernel
theorem dL_law_845 : decode cL_law 845 = .ok (.daload, 1) := by decide +kernel
theorem dL_law_846 : decode cL_law 846 = .ok (.dsub, 1) := by decide +kernel
theorem dL_law_847 : decode cL_law 847 = .ok (.iload 8, 2) := by decide +kernel
theorem dL_law_849 : decode cL_law 849 = .ok (.bipush 17, 2) := by decide +kernel
theorem dL_law_851 : decode cL_law 851 = .ok (.ishr, 1) := by decide +kernel
theorem dL_law_852 : decode cL_law 852 = .ok (.sipush 1001, 3) := by decide +kernel
theorem dL_law_855 : decode cL_law 855 = .ok (.invokestatic 15, 3) := by decide +kernel
theorem dL_law_858 : decode cL_law 858 = .ok (.i2d, 1) := by decide +kernel
theorem dL_law_859 : decode cL_law 859 = .ok (.ldc2_w 120, 3) := by decide +kernel
theorem dL_law_862 : decode cL_law 862 = .ok (.ddiv, 1) := by decide +kernel
theorem dL_law_863 : decode cL_law 863 = .ok (.dmul, 1) := by decide +kernel
theorem dL_law_864 : decode cL_law 864 = .ok (.dadd, 1) := by decide +kernel
theorem dL_law_865 : decode cL_law 865 = .ok (.dstore 11, 2) := by decide +kernel
theorem dL_law_867 : decode cL_law 867 = .ok (.aload 4, 2) := by decide +kernel
theorem dL_law_869 : decode cL_law 869 = .ok (.iload_n 2, 1) := by decide +kernel
theorem dL_law_870 : decode cL_law 870 = .ok (.dload 11, 2) := by decide +kernel
theorem dL_law_872 : decode cL_law 872 = .ok (.invokestatic 49, 3) := by decide +kernel
theorem dL_law_875 : decode cL_law 875 = .ok (.istore 13, 2) := by decide +kernel
theorem dL_law_877 : decode cL_law 877 = .ok (.aload_n 1, 1) := by decide +kernel
theorem dL_law_878 : decode cL_law 878 = .ok (.dload 11, 2) := by decide +kernel
theorem dL_law_880 : decode cL_law 880 = .ok (.invokevirtual 122, 3) := by decide +kernel
theorem dL_law_883 : decode cL_law 883 = .ok (.aload 4, 2) := by decide +kernel
theorem dL_law_885 : decode cL_law 885 = .ok (.aload 5, 2) := by decide +kernel
theorem dL_law_887 : decode cL_law 887 = .ok (.aload 6, 2) := by decide +kernel
theorem dL_law_889 : decode cL_law 889 = .ok (.iload_n 2, 1) := by decide +kernel
theorem dL_law_890 : decode cL_law 890 = .ok (.iload 13, 2) := by decide +kernel
theorem dL_law_892 : decode cL_law 892 = .ok (.dload 11, 2) := by decide +kernel
theorem dL_law_894 : decode cL_law 894 = .ok (.aload 4, 2) := by decide +kernel
theorem dL_law_896 : decode cL_law 896 = .ok (.iload 13, 2) := by decide +kernel
theorem dL_law_898 : decode cL_law 898 = .ok (.daload, 1) := by decide +kernel
theorem dL_law_899 : decode cL_law 899 = .ok (.dsub, 1) := by decide +kernel
theorem dL_law_900 : decode cL_law 900 = .ok (.iconst 0, 1) := by decide +kernel
theorem dL_law_901 : decode cL_law 901 = .ok (.invokestatic 53, 3) := by decide +kernel
theorem dL_law_904 : decode cL_law 904 = .ok (.dcmp .l, 1) := by decide +kernel
theorem dL_law_905 : decode cL_law 905 = .ok (.ifCond .ne 34, 3) := by decide +kernel
theorem dL_law_908 : decode cL_law 908 = .ok (.aload_n 1, 1) := by decide +kernel
theorem dL_law_909 : decode cL_law 909 = .ok (.dload 11, 2) := by decide +kernel
theorem dL_law_911 : decode cL_law 911 = .ok (.invokevirtual 125, 3) := by decide +kernel
theorem dL_law_914 : decode cL_law 914 = .ok (.aload 4, 2) := by decide +kernel
theorem dL_law_916 : decode cL_law 916 = .ok (.aload 5, 2) := by decide +kernel
theorem dL_law_918 : decode cL_law 918 = .ok (.aload 6, 2) := by decide +kernel
theorem dL_law_920 : decode cL_law 920 = .ok (.iload_n 2, 1) := by decide +kernel
theorem dL_law_921 : decode cL_law 921 = .ok (.iload 13, 2) := by decide +kernel
theorem dL_law_923 : decode cL_law 923 = .ok (.dload 11, 2) := by decide +kernel
theorem dL_law_925 : decode cL_law 925 = .ok (.aload 4, 2) := by decide +kernel
theorem dL_law_927 : decode cL_law 927 = .ok (.iload 13, 2) := by decide +kernel
theorem dL_law_929 : decode cL_law 929 = .ok (.daload, 1) := by decide +kernel
theorem dL_law_930 : decode cL_law 930 = .ok (.dsub, 1) := by decide +kernel
theorem dL_law_931 : decode cL_law 931 = .ok (.iconst 1, 1) := by decide +kernel
theorem dL_law_932 : decode cL_law 932 = .ok (.invokestatic 53, 3) := by decide +kernel
theorem dL_law_935 : decode cL_law 935 = .ok (.dcmp .l, 1) := by decide +kernel
theorem dL_law_936 : decode cL_law 936 = .ok (.ifCond .eq 5, 3) := by decide +kernel
theorem dL_law_939 : decode cL_law 939 = .ok (.iconst 0, 1) := by decide +kernel
theorem dL_law_940 : decode cL_law 940 = .ok (.ireturn, 1) := by decide +kernel
theorem dL_law_941 : decode cL_law 941 = .ok (.aload_n 1, 1) := by decide +kernel
theorem dL_law_942 : decode cL_law 942 = .ok (.aload 4, 2) := by decide +kernel
theorem dL_law_944 : decode cL_law 944 = .ok (.iconst 0, 1) := by decide +kernel
theorem dL_law_945 : decode cL_law 945 = .ok (.daload, 1) := by decide +kernel
theorem dL_law_946 : decode cL_law 946 = .ok (.dload 11, 2) := by decide +kernel
theorem dL_law_948 : decode cL_law 948 = .ok (.invokevirtual 127, 3) := by decide +kernel
theorem dL_law_951 : decode cL_law 951 = .ok (.aload 4, 2) := by decide +kernel
theorem dL_law_953 : decode cL_law 953 = .ok (.aload 5, 2) := by decide +kernel
theorem dL_law_955 : decode cL_law 955 = .ok (.aload 6, 2) := by decide +kernel
theorem dL_law_957 : decode cL_law 957 = .ok (.iload_n 2, 1) := by decide +kernel
theorem dL_law_958 : decode cL_law 958 = .ok (.dload 11, 2) := by decide +kernel
theorem dL_law_960 : decode cL_law 960 = .ok (.invokestatic 130, 3) := by decide +kernel
theorem dL_law_963 : decode cL_law 963 = .ok (.aload 4, 2) := by decide +kernel
theorem dL_law_965 : decode cL_law 965 = .ok (.aload 5, 2) := by decide +kernel
theorem dL_law_967 : decode cL_law 967 = .ok (.aload 6, 2) := by decide +kernel
theorem dL_law_969 : decode cL_law 969 = .ok (.iload_n 2, 1) := by decide +kernel
theorem dL_law_970 : decode cL_law 970 = .ok (.aload 4, 2) := by decide +kernel
theorem dL_law_972 : decode cL_law 972 = .ok (.iconst 0, 1) := by decide +kernel
theorem dL_law_973 : decode cL_law 973 = .ok (.daload, 1) := by decide +kernel
theorem dL_law_974 : decode cL_law 974 = .ok (.invokestatic 130, 3) := by decide +kernel
theorem dL_law_977 : decode cL_law 977 = .ok (.dsub, 1) := by decide +kernel
theorem dL_law_978 : decode cL_law 978 = .ok (.dcmp .l, 1) := by decide +kernel
theorem dL_law_979 : decode cL_law 979 = .ok (.ifCond .eq 5, 3) := by decide +kernel
theorem dL_law_982 : decode cL_law 982 = .ok (.iconst 0, 1) := by decide +kernel
theorem dL_law_983 : decode cL_law 983 = .ok (.ireturn, 1) := by decide +kernel
theorem dL_law_984 : decode cL_law 984 = .ok (.iinc 7 1, 3) := by decide +kernel
theorem dL_law_987 : decode cL_law 987 = .ok (.goto (-870), 3) := by decide +kernel
theorem dL_law_990 : decode cL_law 990 = .ok (.aload_n 1, 1) := by decide +kernel
theorem dL_law_991 : decode cL_law 991 = .ok (.invokevirtual 133, 3) := by decide +kernel
theorem dL_law_994 : decode cL_law 994 = .ok (.iload_n 2, 1) := by decide +kernel
theorem dL_law_995 : decode cL_law 995 = .ok (.if_icmp .ne 7, 3) := by decide +kernel
theorem dL_law_998 : decode cL_law 998 = .ok (.iconst 1, 1) := by decide +kernel
theorem dL_law_999 : decode cL_law 999 = .ok (.goto 4, 3) := by decide +kernel
theorem dL_law_1002 : decode cL_law 1002 = .ok (.iconst 0, 1) := by decide +kernel
theorem dL_law_1003 : decode cL_law 1003 = .ok (.ireturn, 1) := by decide +kernel
abbrev vwCl : List vw_C := [(RX0, TX0, 4), (RX1, TX1, 4), (RX2, TX2, 5), (RX3, TX3, 4), (RX4, TX4, 1), (RX5, TX5, 3), (RX6, TX6, 6)]
